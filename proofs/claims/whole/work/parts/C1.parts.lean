/-! PARTING NUMBERS AMONG PLACES: two ways to count -/
section Part
variable (N : Nat) (v w : Nat → Int)
def sm (T : Nat) : Int := sumN (fun i => if T.testBit i = true then v i else 0) N
/-- of several like numbers the set has the first ones -/
def ino (T : Nat) : Prop := ∀ i j, i < j → j < N → v i = v j → T.testBit j = true → T.testBit i = true
/-- the set has the first ones of several like numbers of S -/
def fsO (t S : Nat) : Prop := ∀ k, k < N → t.testBit k = true → ∀ i, i < k → v i = v k → S.testBit i = true → t.testBit i = true
/-- the ways to lay the numbers of S on the last r of m places -/
noncomputable def Rr (m : Nat) : Nat → Nat → Int
  | 0, S => iv (S = 0) 1
  | r + 1, S => sumN (fun t => iv (sb t S ∧ sm N v t = w (m - 1 - r) ∧ fsO N v t S) (Rr m r (S ^^^ t))) (2 ^ N)
/-- the ways to lay the numbers of T on the first p places, in order -/
noncomputable def Cc : Nat → Nat → Int
  | 0, T => iv (T = 0) 1
  | p + 1, T => iv (ino N v T ∧ sm N v T = sumN w (p + 1)) (sumN (fun f => iv (sb f T) (Cc p f)) (2 ^ N))
variable {N v w}
theorem Rr_nn {m : Nat} : ∀ r S, 0 ≤ Rr N v w m r S
  | 0, S => iv_nn (by decide)
  | r + 1, S => sumN_nn _ fun t _ => iv_nn (Rr_nn r _)
theorem Cc_nn : ∀ p T, 0 ≤ Cc N v w p T
  | 0, T => iv_nn (by decide)
  | p + 1, T => iv_nn (sumN_nn _ fun t _ => iv_nn (Cc_nn p _))
theorem sb_x {t S : Nat} (h : sb t S) : sb (S ^^^ t) S := fun i hi => by
  rw [Nat.testBit_xor] at hi
  cases c : t.testBit i
  · rw [c, Bool.xor_false] at hi; exact hi
  · exact h i c
theorem xr_x (S t : Nat) : S ^^^ (S ^^^ t) = t := by rw [← Nat.xor_assoc, Nat.xor_self, Nat.zero_xor]
theorem Rr_le {m : Nat} : ∀ r S, S < 2 ^ N → Rr N v w m r S ≤ (r : Int) ^ pcn N S
  | 0, S, hS => by
    show iv (S = 0) 1 ≤ (0 : Int) ^ pcn N S
    by_cases c : S = 0
    · subst c
      have e : ∀ M, pcn M 0 = 0 := fun M => by
        induction M with
        | zero => rfl
        | succ M ih => show 0 % 2 + pcn M (0 / 2) = 0; rw [show 0 / 2 = 0 from rfl, ih]
      rw [iv_t rfl, e, Int.pow_zero]; exact Int.le_refl 1
    · rw [iv_f c]
      exact Int.pow_nonneg (Int.le_refl 0)
  | r + 1, S, hS => by
    have h1 := sumN_le (f := fun t => iv (sb t S ∧ sm N v t = w (m - 1 - r) ∧ fsO N v t S) (Rr N v w m r (S ^^^ t))) (h := fun t => iv (sb t S) ((r : Int) ^ pcn N (S ^^^ t))) (2 ^ N) (fun t ht => by
      show iv (sb t S ∧ sm N v t = w (m - 1 - r) ∧ fsO N v t S) (Rr N v w m r (S ^^^ t)) ≤ iv (sb t S) ((r : Int) ^ pcn N (S ^^^ t))
      have q := Rr_le (m := m) r (S ^^^ t) (xr_lt hS ht)
      rcases Classical.em (sb t S ∧ sm N v t = w (m - 1 - r) ∧ fsO N v t S) with c | c
      · rw [iv_t c, iv_t c.1]; exact q
      · rw [iv_f c]
        exact iv_nn (Int.le_trans (Rr_nn r _) q))
    have h2 := sumN_xr N (fun t => iv (sb t S) ((r : Int) ^ pcn N t)) S hS
    rw [sub_pow (r : Int) N S hS] at h2
    rw [show ((r + 1 : Nat) : Int) = (r : Int) + 1 from rfl, h2]
    refine Int.le_trans h1 (Int.le_of_eq (sumN_cg _ fun t ht => ?_))
    show iv (sb t S) ((r : Int) ^ pcn N (S ^^^ t)) = iv (sb (S ^^^ t) S) ((r : Int) ^ pcn N (S ^^^ t))
    refine iv_cg ⟨fun q => sb_x q, fun q => ?_⟩
    have := sb_x q
    rw [xr_x] at this
    exact this
theorem Cc_le : ∀ p T, T < 2 ^ N → Cc N v w p T ≤ (p : Int) ^ pcn N T
  | 0, T, hT => by
    show iv (T = 0) 1 ≤ (0 : Int) ^ pcn N T
    by_cases c : T = 0
    · subst c
      have e : ∀ M, pcn M 0 = 0 := fun M => by
        induction M with
        | zero => rfl
        | succ M ih => show 0 % 2 + pcn M (0 / 2) = 0; rw [show 0 / 2 = 0 from rfl, ih]
      rw [iv_t rfl, e, Int.pow_zero]; exact Int.le_refl 1
    · rw [iv_f c]
      exact Int.pow_nonneg (Int.le_refl 0)
  | p + 1, T, hT => by
    rw [show ((p + 1 : Nat) : Int) = (p : Int) + 1 from rfl, ← sub_pow (p : Int) N T hT]
    have h1 : sumN (fun f => iv (sb f T) (Cc N v w p f)) (2 ^ N) ≤ sumN (fun f => iv (sb f T) ((p : Int) ^ pcn N f)) (2 ^ N) := sumN_le _ fun f hf => by
      have q := Cc_le p f hf
      show iv (sb f T) (Cc N v w p f) ≤ iv (sb f T) ((p : Int) ^ pcn N f)
      rcases Classical.em (sb f T) with c | c
      · rw [iv_t c, iv_t c]; exact q
      · rw [iv_f c, iv_f c]; exact Int.le_refl 0
    show iv (ino N v T ∧ sm N v T = sumN w (p + 1)) _ ≤ _
    rcases Classical.em (ino N v T ∧ sm N v T = sumN w (p + 1)) with c | c
    · rw [iv_t c]; exact h1
    · rw [iv_f c]
      exact Int.le_trans (sumN_nn _ fun f _ => iv_nn (Cc_nn p f)) h1
theorem pow_big {r k : Nat} (hr : r ≤ 8) (hk : k ≤ 10) : (r : Int) ^ k ≤ 1073741824 := by
  have h1 : r ^ k ≤ 8 ^ k := Nat.pow_le_pow_left hr k
  have h2 : 8 ^ k ≤ 8 ^ 10 := Nat.pow_le_pow_right (by omega) hk
  have h3 : (8 : Nat) ^ 10 = 1073741824 := by decide
  have h4 : ((r ^ k : Nat) : Int) = (r : Int) ^ k := Int.natCast_pow ..
  omega
theorem Rr_b {m r S : Nat} (hN : N ≤ 10) (hr : r ≤ 8) (hS : S < 2 ^ N) : 0 ≤ Rr N v w m r S ∧ Rr N v w m r S ≤ 1073741824 :=
  ⟨Rr_nn r S, Int.le_trans (Rr_le r S hS) (pow_big hr (Nat.le_trans (pcn_le N S) hN))⟩
theorem Cc_b {p T : Nat} (hN : N ≤ 10) (hr : p ≤ 8) (hS : T < 2 ^ N) : 0 ≤ Cc N v w p T ∧ Cc N v w p T ≤ 1073741824 :=
  ⟨Cc_nn p T, Int.le_trans (Cc_le p T hS) (pow_big hr (Nat.le_trans (pcn_le N T) hN))⟩
theorem sm_x {T U : Nat} (h : sb T U) : sm N v U = sm N v T + sm N v (T ^^^ U) := by
  show sumN _ N = sumN _ N + sumN _ N
  rw [← sumN_add]
  refine sumN_cg N fun i _ => ?_
  show (if U.testBit i = true then v i else 0) = (if T.testBit i = true then v i else 0) + (if (T ^^^ U).testBit i = true then v i else 0)
  rw [Nat.testBit_xor]
  cases c : T.testBit i
  · rw [if_neg (c := false = true) (by decide), Bool.false_xor]; omega
  · rw [h i c]; show v i = v i + 0; omega
theorem sm_0 : sm N v 0 = 0 := by
  show sumN _ N = 0
  rw [sumN_cg N (h := fun _ => 0) (fun i _ => by show (if (0 : Nat).testBit i = true then v i else 0) = 0; rw [Nat.zero_testBit, if_neg (by decide)]), sumN_zero]
theorem ino_0 : ino N v 0 := fun i j _ _ _ h => by rw [Nat.zero_testBit] at h; exact absurd h (by decide)
theorem Cc_at {p T : Nat} (h : 0 < Cc N v w p T) : ino N v T ∧ sm N v T = sumN w p := by
  cases p with
  | zero =>
    have := (iv_pos (h : 0 < iv (T = 0) 1)).1
    subst this
    exact ⟨ino_0, sm_0⟩
  | succ p => exact (iv_pos (h : 0 < iv (ino N v T ∧ sm N v T = sumN w (p + 1)) _)).1
/-- one place more: seen from the numbers that are left, or from those that are laid -/
theorem go_iff {T U p : Nat} (hT : T < 2 ^ N) (hU : U < 2 ^ N) (hi : ino N v T) (hs : sm N v T = sumN w p) :
    (sb (T ^^^ U) ((2 ^ N - 1) ^^^ T) ∧ sm N v (T ^^^ U) = w p ∧ fsO N v (T ^^^ U) ((2 ^ N - 1) ^^^ T)) ↔ (sb T U ∧ ino N v U ∧ sm N v U = sumN w (p + 1)) := by
  have b1 : ∀ i, (T ^^^ U).testBit i = (T.testBit i).xor (U.testBit i) := fun i => Nat.testBit_xor ..
  have b2 : ∀ i, i < N → ((2 ^ N - 1) ^^^ T).testBit i = !(T.testBit i) := fun i hi => by
    rw [Nat.testBit_xor, tb_full, decide_eq_true hi, Bool.true_xor]
  have a1 : sb (T ^^^ U) ((2 ^ N - 1) ^^^ T) ↔ sb T U := by
    constructor
    · intro h i c
      have hN := tb_lt c hT
      cases e : U.testBit i
      · have := h i (by rw [b1, c, e]; rfl)
        rw [b2 i hN, c] at this
        exact absurd this (by decide)
      · rfl
    · intro h i c
      have hN := tb_lt c (xr_lt hT hU)
      rw [b1] at c
      rw [b2 i hN]
      cases e : T.testBit i
      · rfl
      · rw [e, h i e] at c; exact absurd c (by decide)
  constructor
  · rintro ⟨h1, h2, h3⟩
    have h1' := a1.mp h1
    refine ⟨h1', fun i j hij hj hv hb => ?_, ?_⟩
    · cases e : T.testBit j
      · cases e' : T.testBit i
        · have := h3 j hj (by rw [b1, e, hb]; rfl) i hij hv (by rw [b2 i (by omega), e']; rfl)
          rw [b1, e', Bool.false_xor] at this
          exact this
        · exact h1' i e'
      · exact h1' i (hi i j hij hj hv e)
    · rw [sm_x h1', hs, h2]; rfl
  · rintro ⟨h1, h2, h3⟩
    refine ⟨a1.mpr h1, ?_, fun k hk hb i hik hv hS => ?_⟩
    · rw [sm_x h1, hs] at h3
      have : sumN w (p + 1) = sumN w p + w p := rfl
      omega
    · rw [b2 i (by omega)] at hS
      have e : T.testBit i = false := by cases c : T.testBit i; rfl; rw [c] at hS; exact absurd hS (by decide)
      rw [b1, e, Bool.false_xor]
      rw [b1] at hb
      cases c : U.testBit k
      · cases c' : T.testBit k
        · rw [c, c'] at hb; exact absurd hb (by decide)
        · rw [h1 k c'] at c; exact absurd c (by decide)
      · exact h2 i k hik hk hv c
/-- both counts are one -/
theorem Xx_step {m p : Nat} (hp : p < m) : sumN (fun T => Cc N v w p T * Rr N v w m (m - p) ((2 ^ N - 1) ^^^ T)) (2 ^ N) = sumN (fun T => Cc N v w (p + 1) T * Rr N v w m (m - (p + 1)) ((2 ^ N - 1) ^^^ T)) (2 ^ N) := by
  have e1 : ∀ T, T < 2 ^ N → Cc N v w p T * Rr N v w m (m - p) ((2 ^ N - 1) ^^^ T) = sumN (fun U => iv (sb T U ∧ ino N v U ∧ sm N v U = sumN w (p + 1)) (Cc N v w p T * Rr N v w m (m - (p + 1)) ((2 ^ N - 1) ^^^ U))) (2 ^ N) := fun T hT => by
    by_cases c : 0 < Cc N v w p T
    · obtain ⟨hi, hs⟩ := Cc_at c
      rw [show m - p = (m - (p + 1)) + 1 by omega]
      show Cc N v w p T * sumN (fun t => iv (sb t ((2 ^ N - 1) ^^^ T) ∧ sm N v t = w (m - 1 - (m - (p + 1))) ∧ fsO N v t ((2 ^ N - 1) ^^^ T)) (Rr N v w m (m - (p + 1)) (((2 ^ N - 1) ^^^ T) ^^^ t))) (2 ^ N) = _
      rw [show m - 1 - (m - (p + 1)) = p by omega, sumN_xr N _ T hT, ← sumN_mul]
      refine sumN_cg _ fun U hU => ?_
      show Cc N v w p T * iv (sb (T ^^^ U) ((2 ^ N - 1) ^^^ T) ∧ sm N v (T ^^^ U) = w p ∧ fsO N v (T ^^^ U) ((2 ^ N - 1) ^^^ T)) (Rr N v w m (m - (p + 1)) (((2 ^ N - 1) ^^^ T) ^^^ (T ^^^ U))) = _
      rw [show ((2 ^ N - 1) ^^^ T) ^^^ (T ^^^ U) = (2 ^ N - 1) ^^^ U by rw [Nat.xor_assoc, xr_x]]
      rw [iv_cg (go_iff hT hU hi hs)]
      rcases Classical.em (sb T U ∧ ino N v U ∧ sm N v U = sumN w (p + 1)) with q | q
      · rw [iv_t q, iv_t q]
      · rw [iv_f q, iv_f q, Int.mul_zero]
    · have e : Cc N v w p T = 0 := by have := Cc_nn (N := N) (v := v) (w := w) p T; omega
      rw [e, Int.zero_mul, sumN_cg (2 ^ N) (h := fun _ => 0) (fun U _ => by
        rw [Int.zero_mul]
        rcases Classical.em (sb T U ∧ ino N v U ∧ sm N v U = sumN w (p + 1)) with q | q
        · exact iv_t q
        · exact iv_f q), sumN_zero]
  rw [sumN_cg _ e1, sumN_comm]
  refine sumN_cg _ fun U hU => ?_
  show sumN (fun T => iv (sb T U ∧ ino N v U ∧ sm N v U = sumN w (p + 1)) (Cc N v w p T * Rr N v w m (m - (p + 1)) ((2 ^ N - 1) ^^^ U))) (2 ^ N) = iv (ino N v U ∧ sm N v U = sumN w (p + 1)) (sumN (fun f => iv (sb f U) (Cc N v w p f)) (2 ^ N)) * _
  rcases Classical.em (ino N v U ∧ sm N v U = sumN w (p + 1)) with q | q
  · rw [iv_t q, Int.mul_comm, ← sumN_mul]
    refine sumN_cg _ fun T _ => ?_
    show iv (sb T U ∧ ino N v U ∧ sm N v U = sumN w (p + 1)) _ = _ * iv (sb T U) (Cc N v w p T)
    rcases Classical.em (sb T U) with r | r
    · rw [iv_t ⟨r, q⟩, iv_t r, Int.mul_comm]
    · rw [iv_f (fun z => r z.1), iv_f r, Int.mul_zero]
  · rw [iv_f q, Int.zero_mul, sumN_cg (2 ^ N) (h := fun _ => 0) (fun T _ => iv_f (fun z => q z.2)), sumN_zero]
theorem both_ways (m : Nat) : Cc N v w m (2 ^ N - 1) = Rr N v w m m (2 ^ N - 1) := by
  have key : ∀ p, p ≤ m → sumN (fun T => Cc N v w 0 T * Rr N v w m (m - 0) ((2 ^ N - 1) ^^^ T)) (2 ^ N) = sumN (fun T => Cc N v w p T * Rr N v w m (m - p) ((2 ^ N - 1) ^^^ T)) (2 ^ N) := fun p => by
    induction p with
    | zero => exact fun _ => rfl
    | succ p ih => exact fun h => (ih (by omega)).trans (Xx_step (by omega))
  have h := key m (Nat.le_refl m)
  rw [sumN_cg (2 ^ N) (h := fun T => if T = 0 then (fun T => Rr N v w m m ((2 ^ N - 1) ^^^ T)) T else 0) (fun T _ => by
    show iv (T = 0) 1 * Rr N v w m (m - 0) ((2 ^ N - 1) ^^^ T) = if T = 0 then Rr N v w m m ((2 ^ N - 1) ^^^ T) else 0
    by_cases c : T = 0
    · rw [iv_t c, if_pos c, Int.one_mul]; rfl
    · rw [iv_f c, if_neg c, Int.zero_mul]), sumN_one _ 0, if_pos (p2_pos N)] at h
  rw [sumN_cg (2 ^ N) (f := fun T => Cc N v w m T * Rr N v w m (m - m) ((2 ^ N - 1) ^^^ T)) (h := fun T => if T = 2 ^ N - 1 then (fun T => Cc N v w m T) T else 0) (fun T hT => by
    show Cc N v w m T * Rr N v w m (m - m) ((2 ^ N - 1) ^^^ T) = if T = 2 ^ N - 1 then Cc N v w m T else 0
    rw [Nat.sub_self]
    show Cc N v w m T * iv ((2 ^ N - 1) ^^^ T = 0) 1 = _
    by_cases c : T = 2 ^ N - 1
    · rw [if_pos c, iv_t (by rw [c, Nat.xor_self]), Int.mul_one]
    · rw [if_neg c, iv_f (fun q => c (by have := xr_x (2 ^ N - 1) T; rw [q, Nat.xor_zero] at this; exact this.symm)), Int.mul_zero]), sumN_one _ (2 ^ N - 1), if_pos (full_lt N)] at h
  rw [← h]
  show Rr N v w m m ((2 ^ N - 1) ^^^ 0) = _
  rw [Nat.xor_zero]
end Part
