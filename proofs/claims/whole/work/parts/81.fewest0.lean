/-! SETS AS BITS OF AN INT -/
theorem n3_bv (S : Nat) : (Int32.ofInt (S : Int)).toBitVec = BitVec.ofNat 32 S := BitVec.ofInt_natCast ..
theorem n3_int {T : Nat} (h : T < 2147483648) : (BitVec.ofNat 32 T).toInt = (T : Int) := by
  rw [BitVec.toInt_eq_toNat_of_lt, BitVec.toNat_ofNat, Nat.mod_eq_of_lt (by omega)]
  rw [BitVec.toNat_ofNat, Nat.mod_eq_of_lt (by omega)]; omega
theorem and3_n {S T : Nat} (hS : S < 2147483648) : and3 (S : Int) (T : Int) = ((S &&& T : Nat) : Int) := by
  have e : (Int32.ofInt (S : Int) &&& Int32.ofInt (T : Int)).toBitVec = BitVec.ofNat 32 (S &&& T) := by
    rw [Int32.toBitVec_and, n3_bv, n3_bv, BitVec.ofNat_and]
  show ((Int32.ofInt (S : Int) &&& Int32.ofInt (T : Int)).toBitVec).toInt = _
  rw [e, n3_int (Nat.lt_of_le_of_lt Nat.and_le_left hS)]
theorem xor3_n {S T : Nat} (hS : S < 2147483648) (hT : T < 2147483648) : xor3 (S : Int) (T : Int) = ((S ^^^ T : Nat) : Int) := by
  have e : (Int32.ofInt (S : Int) ^^^ Int32.ofInt (T : Int)).toBitVec = BitVec.ofNat 32 (S ^^^ T) := by
    rw [Int32.toBitVec_xor, n3_bv, n3_bv, BitVec.ofNat_xor]
  show ((Int32.ofInt (S : Int) ^^^ Int32.ofInt (T : Int)).toBitVec).toInt = _
  rw [e, n3_int (Nat.xor_lt_two_pow (n := 31) hS hT)]
theorem or3_n {S T : Nat} (hS : S < 2147483648) (hT : T < 2147483648) : or3 (S : Int) (T : Int) = ((S ||| T : Nat) : Int) := by
  have e : (Int32.ofInt (S : Int) ||| Int32.ofInt (T : Int)).toBitVec = BitVec.ofNat 32 (S ||| T) := by
    rw [Int32.toBitVec_or, n3_bv, n3_bv, BitVec.ofNat_or]
  show ((Int32.ofInt (S : Int) ||| Int32.ofInt (T : Int)).toBitVec).toInt = _
  rw [e, n3_int (Nat.or_lt_two_pow (n := 31) hS hT)]
theorem shl3_n : ∀ j : Fin 31, shl3 1 (j.val : Int) = ((2 ^ j.val : Nat) : Int) := by decide +kernel
theorem sh31 : ∀ j : Fin 32, ((Int32.ofInt (j.val : Int) &&& 31).toBitVec.smod 32#32).toNat = j.val := by decide +kernel
theorem shr3_n {S j : Nat} (hS : S < 2147483648) (hj : j < 32) : shr3 (S : Int) (j : Int) = ((S / 2 ^ j : Nat) : Int) := by
  have e : (Int32.ofInt (S : Int) >>> (Int32.ofInt (j : Int) &&& 31)).toBitVec = (BitVec.ofNat 32 S).sshiftRight j := by
    rw [Int32.toBitVec_shiftRight, n3_bv, BitVec.sshiftRight_eq']
    exact congrArg (BitVec.sshiftRight (BitVec.ofNat 32 S)) (sh31 ⟨j, hj⟩)
  show ((Int32.ofInt (S : Int) >>> (Int32.ofInt (j : Int) &&& 31)).toBitVec).toInt = _
  rw [e, BitVec.toInt_sshiftRight, n3_int hS, Int.shiftRight_eq_div_pow]
  norm_cast

theorem bt_n {S j : Nat} (hS : S < 2147483648) (hj : j < 32) : and3 (shr3 (S : Int) (j : Int)) 1 = if S.testBit j = true then 1 else 0 := by
  rw [shr3_n hS hj]
  have := and3_n (S := S / 2 ^ j) (T := 1) (Nat.lt_of_le_of_lt (Nat.div_le_self _ _) hS)
  rw [show ((1 : Nat) : Int) = 1 from rfl] at this
  rw [this, Nat.and_one_is_mod]
  have t : S.testBit j = decide (S / 2 ^ j % 2 = 1) := Nat.testBit_eq_decide_div_mod_eq ..
  rw [t]
  have := Nat.mod_lt (S / 2 ^ j) (show 0 < 2 by decide)
  by_cases c : S / 2 ^ j % 2 = 1
  · rw [decide_eq_true c, c]; rfl
  · rw [decide_eq_false c, show S / 2 ^ j % 2 = 0 by omega]; rfl
def bc (x0 : Int) : Int :=
  let y1 := x0 - (and3 (ushr3 x0 1) 1431655765)
  let y2 := (and3 y1 858993459) + (and3 (ushr3 y1 2) 858993459)
  let y3 := and3 (y2 + (ushr3 y2 4)) 252645135
  let y4 := (y3 + (ushr3 y3 8)) + (ushr3 (y3 + (ushr3 y3 8)) 16)
  and3 y4 63
theorem bc_i3 (x : Int) : i3 (bc x) := and3_r _ _
theorem bc_full : ∀ n : Fin 15, bc ((2 ^ n.val - 1 : Nat) : Int) = (n.val : Int) := by decide +kernel
theorem shl_full : ∀ n : Fin 15, shl3 1 (n.val : Int) - 1 = ((2 ^ n.val - 1 : Nat) : Int) := by decide +kernel
theorem sp_bitCount {d n : Nat} {dy : Nat → Shp} {g : Hp} {P : Pst} {x : Int} (hn : 100 ≤ n) (h : P (some (I_ (bc x))) n (W0 dy) g) : Runs miJ6_bitCount_0f7a4 d [I_ x] n (W0 dy) g P :=
  wJ6_bitCount_0f7a4 hn fun y1 e1 y2 e2 y3 e3 y4 e4 => by
    have e : bc x = and3 y4 63 := by rw [e4, e3, e2, e1]; rfl
    rw [← e]; exact h
/-- a set that is neither empty nor full has one in it and one out of it -/
theorem bits_mid {n S : Nat} (h0 : 0 < S) (h1 : S < 2 ^ n - 1) : (∃ j, j < n ∧ S.testBit j = true) ∧ (∃ j, j < n ∧ S.testBit j = false) := by
  have hS : S < 2 ^ n := by omega
  constructor
  · refine Classical.byContradiction fun hc => ?_
    have z : S = 0 := Nat.eq_of_testBit_eq fun j => by
      rw [Nat.zero_testBit]
      by_cases c : j < n
      · cases hb : S.testBit j with
        | false => rfl
        | true => exact absurd ⟨j, c, hb⟩ hc
      · exact Nat.testBit_lt_two_pow (Nat.lt_of_lt_of_le hS (Nat.pow_le_pow_right (by decide) (by omega)))
    omega
  · refine Classical.byContradiction fun hc => ?_
    have z : S = 2 ^ n - 1 := Nat.eq_of_testBit_eq fun j => by
      rw [Nat.testBit_two_pow_sub_one]
      by_cases c : j < n
      · rw [decide_eq_true c]
        cases hb : S.testBit j with
        | true => rfl
        | false => exact absurd ⟨j, c, hb⟩ hc
      · rw [decide_eq_false c]
        exact Nat.testBit_lt_two_pow (Nat.lt_of_lt_of_le hS (Nat.pow_le_pow_right (by decide) (by omega)))
    omega
/-! FEWEST: what can be taken and leave all level -/
def vS (a : Hp) (gn : Nat → Bool) (y : Nat) : Int := if gn y = true then 0 else a 63 y
def xS (a : Hp) (gn : Nat → Bool) (y : Nat) : Int := if gn y = true then a 63 y else 0
section Fewest0
variable {a : Hp}
theorem ld_split (gn : Nat → Bool) (k : Nat) : ld a (vS a gn) k + ld a (xS a gn) k = ld a (a 63) k := by
  unfold ld
  rw [← sumN_add]
  refine sumN_cg _ fun y _ => ?_
  unfold vS xS
  by_cases c : abv (a 60) k 60 y = true
  · rw [if_pos c, if_pos c, if_pos c]
    by_cases d : gn y = true
    · rw [if_pos d, if_pos d]; omega
    · rw [if_neg d, if_neg d]; omega
  · rw [if_neg c, if_neg c, if_neg c]; rfl
theorem sd_split (gn : Nat → Bool) (s : Int) : sd a (vS a gn) s = sd a (a 63) s - sd a (xS a gn) s := by
  unfold sd
  split
  · have := ld_split (a := a) gn s.toNat; omega
  · rfl
theorem lv_id2 (x y w p q u v : Int) : p * (2 * ((x - u) + (y - v) + w)) - q * (2 * (y - v) + w) = (p * (2 * (x + y + w)) - q * (2 * y + w)) - 2 * (u * p - v * (q - p)) := by grind
theorem lev_iff (gn : Nat → Bool) {y : Nat} (h : lnv a (a 63) y = 0) : lnv a (vS a gn) y = 0 ↔ sd a (xS a gn) (a 66 y) * a 64 y = sd a (xS a gn) (a 67 y) * (a 65 y - a 64 y) := by
  unfold lnv lp lq at h ⊢
  rw [sd_split, sd_split, lv_id2, h]
  omega
theorem xS_b (hI : Inv a) (gn : Nat → Bool) {y : Nat} (hy : (y : Int) < a 53 5) : 0 ≤ xS a gn y ∧ xS a gn y ≤ 16000000 := by
  have := (own_b hI hy).1
  unfold xS; split <;> omega
theorem ldx_nn (hI : Inv a) {x : Nat → Int} (hx : ∀ y : Nat, (y : Int) < a 53 5 → 0 ≤ x y) (k : Nat) : 0 ≤ ld a x k := by
  unfold ld
  have := sumN_le (f := fun _ => 0) (h := fun y => if abv (a 60) k 60 y = true then x y else 0) (a 53 5).toNat (fun y hy => by
    show (0 : Int) ≤ if abv (a 60) k 60 y = true then x y else 0
    split
    · exact hx y (by omega)
    · exact Int.le_refl _)
  rw [sumN_zero] at this; exact this
/-- what is taken from a level mobile that stays level comes from both sides of all rods -/
theorem all_gone (hI : Inv a) {k : Nat} (hk : (k : Int) < a 53 5) {x : Nat → Int} (hx : ∀ y : Nat, (y : Int) < a 53 5 → 0 ≤ x y) (hr : ∀ y : Nat, (y : Int) < a 53 5 → (a 57 y = 2 ∨ a 57 y = 3) → x y = 0) (hl : ∀ y : Nat, (y : Int) < a 53 5 → abv (a 60) k 60 y = true → (a 57 y = 2 ∨ a 57 y = 3) → sd a x (a 66 y) * a 64 y = sd a x (a 67 y) * (a 65 y - a 64 y)) (h0 : 0 < ld a x k) {dp : Nat → Nat} (hD : DP (a 53 5) (a 60) dp) : ∀ f y : Nat, dp y = f → (y : Int) < a 53 5 → abv (a 60) k 60 y = true → 0 < ld a x y := by
  intro f
  induction f with
  | zero =>
    intro y hf hy ha
    have e : y = k := Decidable.byContradiction fun z => by have := (abv_dp hD hI.1.2 _ y hf hy ha z).1; omega
    rw [e]; exact h0
  | succ f ih =>
    intro y hf hy ha
    by_cases e : y = k
    · rw [e]; exact h0
    · obtain ⟨-, b2, b3⟩ := abv_dp hD hI.1.2 _ y hf hy ha e
      have hd := (hD y hy).2.2.2 b2
      have hon := (hD y hy).1
      obtain ⟨t1, rod, at1⟩ := (hI.2.2.1 y hy).1.2.2.1 b2
      obtain ⟨r, er⟩ := exN b2
      rw [er] at hd hon b3 rod at1
      have hd : dp y = dp r + 1 := hd
      have b3 : abv (a 60) k 60 r = true := b3
      have rod : a 57 r = 2 ∨ a 57 r = 3 := rod
      have at1 : (a 61 y = 0 ∧ a 66 r = (y : Int)) ∨ (a 61 y = 1 ∧ a 67 r = (y : Int)) := at1
      have p0 := ih r (by omega) hon.2 b3
      rw [ld_eq hI hon.2, hr r hon.2 rod] at p0
      have lv := hl r hon.2 b3 rod
      have sL : 0 ≤ sd a x (a 66 r) := by unfold sd; split; exact ldx_nn hI hx _; exact Int.le_refl _
      have sR : 0 ≤ sd a x (a 67 r) := by unfold sd; split; exact ldx_nn hI hx _; exact Int.le_refl _
      have rb := (rod_k hI hon.2 rod).2
      have zL : sd a x (a 66 r) = 0 → sd a x (a 67 r) = 0 := fun z => by
        rw [z, Int.zero_mul] at lv
        rcases Int.mul_eq_zero.mp lv.symm with w | w
        · exact w
        · omega
      have zR : sd a x (a 67 r) = 0 → sd a x (a 66 r) = 0 := fun z => by
        rw [z, Int.zero_mul] at lv
        rcases Int.mul_eq_zero.mp lv with w | w
        · exact w
        · omega
      rcases at1 with w | w
      · have e1 : sd a x (a 66 r) = ld a x y := by unfold sd; rw [w.2, if_pos (by omega)]; rfl
        by_cases z : sd a x (a 66 r) = 0
        · have := zL z; omega
        · omega
      · have e1 : sd a x (a 67 r) = ld a x y := by unfold sd; rw [w.2, if_pos (by omega)]; rfl
        by_cases z : sd a x (a 67 r) = 0
        · have := zR z; omega
        · omega
/-- a leaf bears itself alone -/
theorem ld_leaf (hI : Inv a) {x : Nat → Int} {y : Nat} (hy : (y : Int) < a 53 5) (h : a 57 y = 1) : ld a x y = x y := by
  have z : a 66 y = -1 ∧ a 67 y = -1 := by
    rcases (hI.2.2.1 y hy).2 with c | c | c
    · exact c.2.2
    · omega
    · omega
  rw [ld_eq hI hy]
  unfold sd
  rw [z.1, z.2, if_neg (by omega)]; omega
theorem ld_zero (hI : Inv a) {x : Nat → Int} {k : Nat} (hx : ∀ y : Nat, (y : Int) < a 53 5 → 0 ≤ x y) (h : ld a x k = 0) {y : Nat} (hy : (y : Int) < a 53 5) (ha : abv (a 60) k 60 y = true) : x y = 0 := by
  unfold ld at h
  have nn := hx y hy
  have le := sumN_le (f := fun z => if z = y then x y else 0) (h := fun z => if abv (a 60) k 60 z = true then x z else 0) (a 53 5).toNat (fun z hz => by
    show (if z = y then x y else 0) ≤ if abv (a 60) k 60 z = true then x z else 0
    by_cases c : z = y
    · rw [if_pos c, c, if_pos ha]; omega
    · rw [if_neg c]
      split
      · exact hx z (by omega)
      · exact Int.le_refl _)
  have one := sumN_one (fun _ => x y) y (a 53 5).toNat
  rw [if_pos (by omega)] at one
  have one : sumN (fun z => if z = y then x y else 0) (a 53 5).toNat = x y := one
  omega
/-- the weights of k's mobile -/
def wts (a : Hp) (k : Nat) : Nat → List Nat
  | 0 => []
  | m + 1 => if Wt a k m then wts a k m ++ [m] else wts a k m
theorem wts_in {k y : Nat} : ∀ m : Nat, y ∈ wts a k m ↔ (y < m ∧ Wt a k y)
  | 0 => ⟨fun h => by simp [wts] at h, fun h => by omega⟩
  | m + 1 => by
    have ih := wts_in (k := k) (y := y) m
    unfold wts
    by_cases c : Wt a k m
    · rw [if_pos c, List.mem_append, ih, List.mem_singleton]
      constructor
      · rintro (z | z)
        · exact ⟨by omega, z.2⟩
        · rw [z]; exact ⟨Nat.lt_succ_self m, c⟩
      · intro z
        by_cases e : y = m
        · exact Or.inr e
        · exact Or.inl ⟨by omega, z.2⟩
    · rw [if_neg c, ih]
      constructor
      · intro z; exact ⟨by omega, z.2⟩
      · intro z
        refine ⟨?_, z.2⟩
        by_cases e : y = m
        · rw [e] at z; exact absurd z.2 c
        · omega
theorem wts_nd {k : Nat} : ∀ m : Nat, (wts a k m).Nodup ∧ (wts a k m).length ≤ m
  | 0 => ⟨List.nodup_nil, Nat.le_refl _⟩
  | m + 1 => by
    obtain ⟨h1, h2⟩ := wts_nd (k := k) m
    unfold wts
    split
    · refine ⟨nodup_app h1 fun z => ?_, ?_⟩
      · have := ((wts_in m).mp z).1; omega
      · rw [List.length_append]; show _ + 1 ≤ _; omega
    · exact ⟨h1, by omega⟩
theorem wts_len {k : Nat} : ∀ m : Nat, ((wts a k m).length : Int) = sumN (fun y => if Wt a k y then 1 else 0) m
  | 0 => rfl
  | m + 1 => by
    have ih := wts_len (k := k) m
    show ((wts a k (m + 1)).length : Int) = sumN (fun y => if Wt a k y then 1 else 0) m + (if Wt a k m then 1 else 0)
    rw [← ih]
    have un : wts a k (m + 1) = if Wt a k m then wts a k m ++ [m] else wts a k m := rfl
    rw [un]
    split
    · rw [List.length_append]; rfl
    · omega
end Fewest0
