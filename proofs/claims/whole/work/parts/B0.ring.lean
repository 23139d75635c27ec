/-! what the tests of a ring say -/
theorem mul_opp {d e : Int} (h : d * e ≤ 0) : (0 < d → e ≤ 0) ∧ (d < 0 → 0 ≤ e) := by
  refine ⟨fun hd => ?_, fun hd => ?_⟩
  · by_cases c : e ≤ 0
    · exact c
    · have := Int.mul_pos hd (show 0 < e by omega); omega
  · by_cases c : 0 ≤ e
    · exact c
    · have := Int.mul_pos (show 0 < -d by omega) (show 0 < -e by omega)
      have e1 : -d * -e = d * e := by grind
      omega
theorem opp_mul {d e : Int} (h : (0 ≤ d ∧ e ≤ 0) ∨ (d ≤ 0 ∧ 0 ≤ e)) : d * e ≤ 0 := by
  rcases h with ⟨h1, h2⟩ | ⟨h1, h2⟩
  · have := Int.mul_nonneg h1 (show 0 ≤ -e by omega)
    have e1 : d * -e = -(d * e) := by grind
    omega
  · have := Int.mul_nonneg (show 0 ≤ -d by omega) h2
    have e1 : -d * e = -(d * e) := by grind
    omega
/-- products of sizes -/
theorem abs_mix {dx dy ex ey : Int} (h : dx * ey = dy * ex) (h1 : ex.natAbs < dx.natAbs) (h2 : dy.natAbs < ey.natAbs) : False := by
  have e1 : dx.natAbs * ey.natAbs = dy.natAbs * ex.natAbs := by rw [← Int.natAbs_mul, ← Int.natAbs_mul, h]
  have : ex.natAbs * dy.natAbs < dx.natAbs * ey.natAbs := Nat.mul_lt_mul'' h1 h2
  rw [e1, Nat.mul_comm] at this
  omega
theorem same_sign {p q : Int} (h : 0 ≤ p * q) (hs : p + q ≤ 0) : p ≤ 0 ∧ q ≤ 0 := by
  refine ⟨?_, ?_⟩
  · by_cases c : p ≤ 0
    · exact c
    · have := Int.mul_pos (show 0 < p by omega) (show 0 < -q by omega)
      have e : p * -q = -(p * q) := by grind
      omega
  · by_cases c : q ≤ 0
    · exact c
    · have := Int.mul_pos (show 0 < -p by omega) (show 0 < q by omega)
      have e : -p * q = -(p * q) := by grind
      omega
theorem fold_iff {x y : Nat → Int} {a b c : Nat} : fldR x y a b c ↔ onS x y a b c ∨ onS x y b c a := by
  have ec : tn x y b c a = tn x y a b c := by unfold tn; grind
  have et : tn x y a b c = (x b - x a) * (y c - y b) - (y b - y a) * (x c - x b) := by unfold tn; grind
  unfold fldR onS
  rw [ec]
  constructor
  · rintro ⟨h1, h2⟩
    rw [et] at h1
    unfold inB
    by_cases z : x b - x a = 0 ∧ y b - y a = 0
    · refine Or.inr ⟨?_, by rw [et]; exact h1⟩
      omega
    · have hh : (x b - x a) * (y c - y b) = (y b - y a) * (x c - x b) := by omega
      have hp : 0 ≤ ((x b - x a) * (x c - x b)) * ((y b - y a) * (y c - y b)) := by
        have e : ((x b - x a) * (x c - x b)) * ((y b - y a) * (y c - y b)) = ((y b - y a) * (x c - x b)) * ((x b - x a) * (y c - y b)) := by grind
        rw [e, hh]; exact sqn _
      obtain ⟨s1, s2⟩ := same_sign hp h2
      have p1 := mul_opp s1
      have p2 := mul_opp s2
      have h3 : (y b - y a) * (x c - x b) = (x b - x a) * (y c - y b) := hh.symm
      have z1 : x b - x a = 0 → x c - x b = 0 := fun e => by
        rw [e] at h3
        have : y b - y a ≠ 0 := fun q => z ⟨e, q⟩
        have h4 : (y b - y a) * (x c - x b) = 0 := by rw [h3]; grind
        rcases Int.mul_eq_zero.mp h4 with q | q
        · exact absurd q this
        · exact q
      have z2 : y b - y a = 0 → y c - y b = 0 := fun e => by
        rw [e] at h3
        have : x b - x a ≠ 0 := fun q => z ⟨q, e⟩
        have h4 : (x b - x a) * (y c - y b) = 0 := by rw [← h3]; grind
        rcases Int.mul_eq_zero.mp h4 with q | q
        · exact absurd q this
        · exact q
      by_cases c1 : (x c - x b).natAbs ≤ (x b - x a).natAbs ∧ (y c - y b).natAbs ≤ (y b - y a).natAbs
      · refine Or.inl ⟨?_, by rw [et]; exact h1⟩
        omega
      · refine Or.inr ⟨?_, by rw [et]; exact h1⟩
        have c2 : (x b - x a).natAbs ≤ (x c - x b).natAbs ∧ (y b - y a).natAbs ≤ (y c - y b).natAbs := by
          refine ⟨?_, ?_⟩
          · by_cases q : (x b - x a).natAbs ≤ (x c - x b).natAbs
            · exact q
            · exfalso
              exact abs_mix hh (by omega) (by omega)
          · by_cases q : (y b - y a).natAbs ≤ (y c - y b).natAbs
            · exact q
            · exfalso
              exact abs_mix h3 (by omega) (by omega)
        omega
  · unfold inB
    rintro (⟨h1, h2⟩ | ⟨h1, h2⟩)
    · refine ⟨h2, ?_⟩
      have p1 := opp_mul (d := x b - x a) (e := x c - x b) (by omega)
      have p2 := opp_mul (d := y b - y a) (e := y c - y b) (by omega)
      omega
    · refine ⟨h2, ?_⟩
      have p1 := opp_mul (d := x b - x a) (e := x c - x b) (by omega)
      have p2 := opp_mul (d := y b - y a) (e := y c - y b) (by omega)
      omega
/-- the reference's test of a pair of sides -/
def bad2 (n : Nat) (x y : Nat → Int) (i j : Nat) : Prop :=
  if nx_ n i = j then onS x y i (nx_ n i) (nx_ n j) ∨ onS x y j (nx_ n j) i
  else if nx_ n j = i then onS x y j (nx_ n j) (nx_ n i) ∨ onS x y i (nx_ n i) j
  else tch2 x y i (nx_ n i) j (nx_ n j)
theorem rg_bad2 {n : Nat} {x y : Nat → Int} (hn : 3 ≤ n) : RG n x y ↔ ∀ i j, i < j → j < n → ¬ bad2 n x y i j := by
  constructor
  · rintro ⟨h1, h2⟩ i j hij hj
    unfold bad2
    by_cases c1 : nx_ n i = j
    · rw [if_pos c1]
      have := h1 i (by omega)
      rw [fold_iff] at this
      rw [c1] at this ⊢; exact this
    · rw [if_neg c1]
      by_cases c2 : nx_ n j = i
      · rw [if_pos c2]
        have := h1 j hj
        rw [fold_iff] at this
        rw [c2] at this ⊢; exact this
      · rw [if_neg c2]; exact h2 i j hij hj c1 c2
  · intro h
    refine ⟨fun i hi => ?_, fun i j hij hj c1 c2 => ?_⟩
    · rw [fold_iff]
      by_cases c : i + 1 < n
      · have e : nx_ n i = i + 1 := if_pos c
        have := h i (i + 1) (by omega) c
        unfold bad2 at this
        rw [if_pos e] at this
        rw [e] at this ⊢; exact this
      · have e : nx_ n i = 0 := if_neg c
        have e0 : nx_ n 0 = 1 := if_pos (by omega)
        have := h 0 i (by omega) hi
        unfold bad2 at this
        rw [if_neg (by rw [e0]; omega), if_pos e] at this
        rw [e] at this ⊢; exact this
    · have := h i j hij hj
      unfold bad2 at this
      rw [if_neg c1, if_neg c2] at this; exact this
/-- the class's test -/
theorem rg_cls {n : Nat} {x y : Nat → Int} : RG n x y ↔ ∀ i, i < n → ¬ fldR x y i (nx_ n i) (nx_ n (nx_ n i)) ∧ ∀ j, i + 2 ≤ j → j < n → nx_ n j ≠ i → ¬ tch2 x y i (nx_ n i) j (nx_ n j) := by
  constructor
  · rintro ⟨h1, h2⟩ i hi
    refine ⟨h1 i hi, fun j hij hj c => h2 i j (by omega) hj ?_ c⟩
    rw [show nx_ n i = i + 1 from if_pos (by omega)]; omega
  · intro h
    refine ⟨fun i hi => (h i hi).1, fun i j hij hj c1 c2 => (h i (by omega)).2 j ?_ hj c2⟩
    rw [show nx_ n i = i + 1 from if_pos (by omega)] at c1; omega
def sgV (v : Int) : Int := if v < 0 then -1 else if 0 < v then 1 else 0
theorem sgV_or (v : Int) : (sgV v = -1 ∧ v < 0) ∨ (sgV v = 0 ∧ v = 0) ∨ (sgV v = 1 ∧ 0 < v) := by
  unfold sgV; split
  · exact Or.inl ⟨rfl, by assumption⟩
  · split
    · exact Or.inr (Or.inr ⟨rfl, by assumption⟩)
    · exact Or.inr (Or.inl ⟨rfl, by omega⟩)
theorem sgV_neg (v w : Int) : sgV v * sgV w < 0 ↔ v * w < 0 := by
  rcases sgV_or v with ⟨a, b⟩ | ⟨a, b⟩ | ⟨a, b⟩ <;> rcases sgV_or w with ⟨c, d⟩ | ⟨c, d⟩ | ⟨c, d⟩ <;> rw [a, c]
  · have := Int.mul_pos (show 0 < -v by omega) (show 0 < -w by omega)
    have e : -v * -w = v * w := by grind
    omega
  · rw [d]; simp
  · have := Int.mul_pos (show 0 < -v by omega) d
    have e : -v * w = -(v * w) := by grind
    omega
  · rw [b]; simp
  · rw [b]; simp
  · rw [b]; simp
  · have := Int.mul_pos b (show 0 < -w by omega)
    have e : v * -w = -(v * w) := by grind
    omega
  · rw [d]; simp
  · have := Int.mul_pos b d
    omega
