/-! SETS AS NUMBERS, SUMS OVER THEM -/
def sb (T U : Nat) : Prop := ∀ i, T.testBit i = true → U.testBit i = true
theorem sb_and {T U : Nat} : (T &&& U = T) ↔ sb T U := by
  constructor
  · intro h i hi
    have e : (T &&& U).testBit i = T.testBit i := by rw [h]
    rw [Nat.testBit_and, hi, Bool.true_and] at e
    exact e
  · intro h
    refine Nat.eq_of_testBit_eq fun i => ?_
    rw [Nat.testBit_and]
    cases hT : T.testBit i
    · rfl
    · rw [h i hT]; rfl
theorem tb_lt {T i : Nat} (h : T.testBit i = true) {N : Nat} (hT : T < 2 ^ N) : i < N := by
  rcases Nat.lt_or_ge i N with c | c
  · exact c
  · rw [Nat.testBit_lt_two_pow (Nat.lt_of_lt_of_le hT (Nat.pow_le_pow_right (by omega) c))] at h
    exact absurd h (by decide)
theorem xr_lt {T U N : Nat} (hT : T < 2 ^ N) (hU : U < 2 ^ N) : T ^^^ U < 2 ^ N := Nat.xor_lt_two_pow hT hU
theorem tb_full {N i : Nat} : (2 ^ N - 1).testBit i = decide (i < N) := Nat.testBit_two_pow_sub_one ..
theorem p2_pos (N : Nat) : 0 < 2 ^ N := Nat.pow_pos (by omega)
theorem full_lt (N : Nat) : 2 ^ N - 1 < 2 ^ N := Nat.sub_lt (p2_pos N) (by omega)
theorem sb_full {T N : Nat} (h : T < 2 ^ N) : sb T (2 ^ N - 1) := fun i hi => by rw [tb_full]; exact decide_eq_true (tb_lt hi h)
theorem ns_eq {T U N : Nat} (hT : T < 2 ^ N) (hU : U < 2 ^ N) (h : ∀ i, i < N → T.testBit i = U.testBit i) : T = U := by
  refine Nat.eq_of_testBit_eq fun i => ?_
  rcases Nat.lt_or_ge i N with c | c
  · exact h i c
  · rw [Nat.testBit_lt_two_pow (Nat.lt_of_lt_of_le hT (Nat.pow_le_pow_right (by omega) c)), Nat.testBit_lt_two_pow (Nat.lt_of_lt_of_le hU (Nat.pow_le_pow_right (by omega) c))]
/-- the set of the numbers below N of which p says true -/
def mkS (p : Nat → Bool) : Nat → Nat
  | 0 => 0
  | N + 1 => mkS p N + (if p N = true then 2 ^ N else 0)
theorem mkS_lt (p : Nat → Bool) : ∀ N, mkS p N < 2 ^ N
  | 0 => by show 0 < 1; omega
  | N + 1 => by
    have h := mkS_lt p N
    show mkS p N + (if p N = true then 2 ^ N else 0) < 2 ^ N * 2
    split <;> omega
theorem mkS_tb (p : Nat → Bool) : ∀ N i, i < N → (mkS p N).testBit i = p i
  | 0, i, h => by omega
  | N + 1, i, h => by
    show (mkS p N + (if p N = true then 2 ^ N else 0)).testBit i = p i
    have hl := mkS_lt p N
    by_cases c : p N = true
    · rw [if_pos c, Nat.add_comm]
      by_cases e : i = N
      · rw [e, Nat.testBit_two_pow_add_eq, Nat.testBit_lt_two_pow hl, c]; rfl
      · rw [Nat.testBit_two_pow_add_gt (by omega), mkS_tb p N i (by omega)]
    · rw [if_neg c, Nat.add_zero]
      by_cases e : i = N
      · rw [e, Nat.testBit_lt_two_pow hl]; revert c; cases p N <;> decide
      · exact mkS_tb p N i (by omega)
theorem sumN_nn {f : Nat → Int} : ∀ n, (∀ y, y < n → 0 ≤ f y) → 0 ≤ sumN f n
  | 0, _ => Int.le_refl 0
  | n + 1, h => by
    have h1 := sumN_nn n (fun y hy => h y (by omega))
    have h2 := h n (by omega)
    show 0 ≤ sumN f n + f n
    omega
theorem sumN_mul (c : Int) (f : Nat → Int) : ∀ n, sumN (fun y => c * f y) n = c * sumN f n
  | 0 => by show (0 : Int) = c * 0; rw [Int.mul_zero]
  | n + 1 => by
    show sumN (fun y => c * f y) n + c * f n = c * (sumN f n + f n)
    rw [sumN_mul c f n, Int.mul_add]
theorem sumN_two2 (f : Nat → Int) : ∀ n, sumN f (2 * n) = sumN (fun u => f (2 * u) + f (2 * u + 1)) n
  | 0 => rfl
  | n + 1 => by
    show sumN f (2 * n + 1) + f (2 * n + 1) = sumN (fun u => f (2 * u) + f (2 * u + 1)) n + (f (2 * n) + f (2 * n + 1))
    rw [← sumN_two2 f n]
    show sumN f (2 * n) + f (2 * n) + f (2 * n + 1) = _
    omega
/-- one that is positive makes the sum positive -/
theorem sumN_pos {f : Nat → Int} {n k : Nat} (h : ∀ y, y < n → 0 ≤ f y) (hk : k < n) (hp : 0 < f k) : 0 < sumN f n := by
  have h1 := sumN_le (f := fun y => if y = k then f y else 0) (h := f) n (fun y hy => by
    show (if y = k then f y else 0) ≤ f y
    split
    · exact Int.le_refl _
    · exact h y hy)
  rw [sumN_one f k n, if_pos hk] at h1
  omega
theorem sumN_ex {f : Nat → Int} : ∀ n, (∀ y, y < n → 0 ≤ f y) → 0 < sumN f n → ∃ k, k < n ∧ 0 < f k
  | 0, _, h => absurd h (Int.lt_irrefl 0)
  | n + 1, h, hp => by
    have hp' : 0 < sumN f n + f n := hp
    by_cases c : 0 < f n
    · exact ⟨n, by omega, c⟩
    · obtain ⟨k, hk, e⟩ := sumN_ex n (fun y hy => h y (by omega)) (by omega)
      exact ⟨k, by omega, e⟩
theorem sumN_upd {f h : Nat → Int} {k : Nat} {n : Nat} (hk : k < n) (e : ∀ y, y < n → y ≠ k → f y = h y) : sumN f n = sumN h n + (f k - h k) := by
  have h1 := sumN_add h (fun y => if y = k then (fun y => f y - h y) y else 0) n
  rw [sumN_one (fun y => f y - h y) k n, if_pos hk] at h1
  rw [← h1]
  refine sumN_cg n fun y hy => ?_
  by_cases c : y = k
  · subst c; rw [if_pos rfl]; show f y = h y + (f y - h y); omega
  · rw [if_neg c, e y hy c]; omega
theorem tb_0 (T : Nat) : T.testBit 0 = decide (T % 2 = 1) := Nat.testBit_zero ..
theorem tb_s (T i : Nat) : T.testBit (i + 1) = (T / 2).testBit i := Nat.testBit_succ ..
theorem tb_2 (u c i : Nat) (hc : c < 2) : (2 * u + c).testBit (i + 1) = u.testBit i := by
  rw [tb_s, show (2 * u + c) / 2 = u by omega]
theorem tb_20 (u c : Nat) (hc : c < 2) : (2 * u + c).testBit 0 = decide (c = 1) := by
  rw [tb_0, show (2 * u + c) % 2 = c by omega]
theorem xr_2 {T U b c : Nat} (hb : b < 2) (hc : c < 2) : (2 * T + b) ^^^ (2 * U + c) = 2 * (T ^^^ U) + (if b = c then 0 else 1) := by
  refine Nat.eq_of_testBit_eq fun i => ?_
  rw [Nat.testBit_xor]
  have h2 : (if b = c then 0 else 1) < 2 := by split <;> omega
  cases i with
  | zero =>
    rw [tb_20 _ _ hb, tb_20 _ _ hc, tb_20 _ _ h2]
    rcases (by omega : b = 0 ∨ b = 1) with e | e <;> rcases (by omega : c = 0 ∨ c = 1) with e' | e' <;> subst e <;> subst e' <;> decide
  | succ i => rw [tb_2 _ _ _ hb, tb_2 _ _ _ hc, tb_2 _ _ _ h2, Nat.testBit_xor]
theorem sb_2 {T U b c : Nat} (hb : b < 2) (hc : c < 2) : sb (2 * T + b) (2 * U + c) ↔ sb T U ∧ b ≤ c := by
  constructor
  · intro h
    refine ⟨fun i hi => ?_, ?_⟩
    · have := h (i + 1) (by rw [tb_2 _ _ _ hb]; exact hi)
      rw [tb_2 _ _ _ hc] at this
      exact this
    · have := h 0
      rw [tb_20 _ _ hb, tb_20 _ _ hc, decide_eq_true_iff, decide_eq_true_iff] at this
      omega
  · rintro ⟨h, e⟩ i hi
    cases i with
    | zero =>
      rw [tb_20 _ _ hb, decide_eq_true_iff] at hi
      rw [tb_20 _ _ hc, decide_eq_true_iff]
      omega
    | succ i =>
      rw [tb_2 _ _ _ hb] at hi
      rw [tb_2 _ _ _ hc]
      exact h i hi
/-- a sum over all sets, taken in another order -/
theorem sumN_xr : ∀ (N : Nat) (h : Nat → Int) (T : Nat), T < 2 ^ N → sumN h (2 ^ N) = sumN (fun u => h (T ^^^ u)) (2 ^ N)
  | 0, h, T, hT => by
    have e : T = 0 := by omega
    subst e
    show 0 + h 0 = 0 + h (0 ^^^ 0)
    rfl
  | N + 1, h, T, hT => by
    have hT' : T < 2 ^ N * 2 := hT
    rw [show (2 ^ (N + 1) : Nat) = 2 * 2 ^ N by rw [Nat.pow_succ, Nat.mul_comm], sumN_two2, sumN_two2]
    rw [sumN_xr N (fun u => h (2 * u) + h (2 * u + 1)) (T / 2) (by omega)]
    refine sumN_cg _ fun u _ => ?_
    show h (2 * (T / 2 ^^^ u)) + h (2 * (T / 2 ^^^ u) + 1) = h (T ^^^ (2 * u)) + h (T ^^^ (2 * u + 1))
    have e1 := xr_2 (T := T / 2) (U := u) (b := T % 2) (c := 0) (by omega) (by omega)
    have e2 := xr_2 (T := T / 2) (U := u) (b := T % 2) (c := 1) (by omega) (by omega)
    rw [show 2 * (T / 2) + T % 2 = T by omega] at e1 e2
    rw [Nat.add_zero] at e1
    rw [e1, e2]
    rcases (by omega : T % 2 = 0 ∨ T % 2 = 1) with c | c <;> rw [c]
    · rfl
    · show _ = h (2 * (T / 2 ^^^ u) + 1) + h (2 * (T / 2 ^^^ u) + 0)
      rw [Int.add_comm]; rfl
/-- how many there are in a set -/
def pcn : Nat → Nat → Nat
  | 0, _ => 0
  | N + 1, T => T % 2 + pcn N (T / 2)
theorem pcn_le : ∀ N T, pcn N T ≤ N
  | 0, _ => Nat.le_refl 0
  | N + 1, T => by
    have := pcn_le N (T / 2)
    show T % 2 + pcn N (T / 2) ≤ N + 1
    omega
/-- x where p holds, else 0 -/
noncomputable def iv (p : Prop) (x : Int) : Int := @ite _ p (Classical.propDecidable p) x 0
theorem iv_t {p : Prop} {x : Int} (h : p) : iv p x = x := if_pos h
theorem iv_f {p : Prop} {x : Int} (h : ¬ p) : iv p x = 0 := if_neg h
theorem iv_cg {p q : Prop} {x : Int} (h : p ↔ q) : iv p x = iv q x := by rw [propext h]
theorem iv_nn {p : Prop} {x : Int} (h : 0 ≤ x) : 0 ≤ iv p x := by
  rcases Classical.em p with c | c
  · rw [iv_t c]; exact h
  · rw [iv_f c]; exact Int.le_refl 0
theorem iv_pos {p : Prop} {x : Int} (h : 0 < iv p x) : p ∧ 0 < x := by
  rcases Classical.em p with c | c
  · rw [iv_t c] at h; exact ⟨c, h⟩
  · rw [iv_f c] at h; exact absurd h (by decide)
theorem iv_and {p q : Prop} {x : Int} : iv p (iv q x) = iv (p ∧ q) x := by
  rcases Classical.em p with c | c
  · rw [iv_t c]; exact iv_cg ⟨fun r => ⟨c, r⟩, fun r => r.2⟩
  · rw [iv_f c, iv_f (fun r => c r.1)]
theorem sub_pow (x : Int) : ∀ (N : Nat) (S : Nat), S < 2 ^ N → sumN (fun t => iv (sb t S) (x ^ pcn N t)) (2 ^ N) = (x + 1) ^ pcn N S
  | 0, S, hS => by
    have e : S = 0 := by omega
    subst e
    show 0 + iv (sb 0 0) (x ^ 0) = (x + 1) ^ 0
    rw [iv_t (p := sb 0 0) (fun i hi => hi), Int.pow_zero, Int.pow_zero]; rfl
  | N + 1, S, hS => by
    have hS' : S < 2 ^ N * 2 := hS
    have ih := sub_pow x N (S / 2) (by omega)
    rw [show (2 ^ (N + 1) : Nat) = 2 * 2 ^ N by rw [Nat.pow_succ, Nat.mul_comm], sumN_two2]
    show _ = (x + 1) ^ (S % 2 + pcn N (S / 2))
    have hb : S % 2 < 2 := Nat.mod_lt _ (by omega)
    have e0 : ∀ u, sb (2 * u) S ↔ sb u (S / 2) := fun u => by
      have := sb_2 (T := u) (U := S / 2) (b := 0) (c := S % 2) (by omega) hb
      rw [show 2 * (S / 2) + S % 2 = S by omega, Nat.add_zero] at this
      rw [this]; exact ⟨fun q => q.1, fun q => ⟨q, Nat.zero_le _⟩⟩
    have e1 : ∀ u, sb (2 * u + 1) S ↔ sb u (S / 2) ∧ S % 2 = 1 := fun u => by
      have := sb_2 (T := u) (U := S / 2) (b := 1) (c := S % 2) (by omega) hb
      rw [show 2 * (S / 2) + S % 2 = S by omega] at this
      rw [this]; exact ⟨fun q => ⟨q.1, by omega⟩, fun q => ⟨q.1, by omega⟩⟩
    have p0 : ∀ u, pcn (N + 1) (2 * u) = pcn N u := fun u => by
      show 2 * u % 2 + pcn N (2 * u / 2) = pcn N u
      rw [show 2 * u % 2 = 0 by omega, show 2 * u / 2 = u by omega, Nat.zero_add]
    have p1 : ∀ u, pcn (N + 1) (2 * u + 1) = pcn N u + 1 := fun u => by
      show (2 * u + 1) % 2 + pcn N ((2 * u + 1) / 2) = pcn N u + 1
      rw [show (2 * u + 1) % 2 = 1 by omega, show (2 * u + 1) / 2 = u by omega, Nat.add_comm]
    rcases (by omega : S % 2 = 0 ∨ S % 2 = 1) with c | c
    · rw [c, Nat.zero_add, ← ih]
      refine sumN_cg _ fun u _ => ?_
      show iv (sb (2 * u) S) (x ^ pcn (N + 1) (2 * u)) + iv (sb (2 * u + 1) S) (x ^ pcn (N + 1) (2 * u + 1)) = iv (sb u (S / 2)) (x ^ pcn N u)
      rw [p0, p1, iv_f (p := sb (2 * u + 1) S) (fun q => by have := ((e1 u).mp q).2; omega), Int.add_zero, iv_cg (e0 u)]
    · rw [c, Nat.add_comm 1 (pcn N (S / 2)), Int.pow_succ, Int.mul_comm, ← ih, ← sumN_mul]
      refine sumN_cg _ fun u _ => ?_
      show iv (sb (2 * u) S) (x ^ pcn (N + 1) (2 * u)) + iv (sb (2 * u + 1) S) (x ^ pcn (N + 1) (2 * u + 1)) = (x + 1) * iv (sb u (S / 2)) (x ^ pcn N u)
      rw [p0, p1]
      rcases Classical.em (sb u (S / 2)) with q | q
      · rw [iv_t q, iv_t ((e0 u).mpr q), iv_t ((e1 u).mpr ⟨q, c⟩), Int.pow_succ, Int.add_mul, Int.one_mul, Int.mul_comm x, Int.add_comm]
      · rw [iv_f q, iv_f (fun r => q ((e0 u).mp r)), iv_f (fun r => q ((e1 u).mp r).1), Int.mul_zero]; rfl
