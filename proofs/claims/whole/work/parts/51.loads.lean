/-! LOADS: the sum over all that hangs on a part -/
def sumN (f : Nat → Int) : Nat → Int
  | 0 => 0
  | n + 1 => sumN f n + f n
theorem sumN_add (f h : Nat → Int) : ∀ n, sumN (fun y => f y + h y) n = sumN f n + sumN h n
  | 0 => rfl
  | n + 1 => by
    show sumN (fun y => f y + h y) n + (f n + h n) = sumN f n + f n + (sumN h n + h n)
    rw [sumN_add f h n]; omega
theorem sumN_cg {f h : Nat → Int} : ∀ n, (∀ y, y < n → f y = h y) → sumN f n = sumN h n
  | 0, _ => rfl
  | n + 1, e => by
    show sumN f n + f n = sumN h n + h n
    rw [sumN_cg n (fun y hy => e y (by omega)), e n (by omega)]
theorem sumN_zero : ∀ n, sumN (fun _ => 0) n = 0
  | 0 => rfl
  | n + 1 => by
    show sumN (fun _ => 0) n + 0 = 0
    rw [sumN_zero n]; rfl
theorem sumN_one (v : Nat → Int) (k : Nat) : ∀ n, sumN (fun y => if y = k then v y else 0) n = if k < n then v k else 0
  | 0 => by rw [if_neg (by omega)]; rfl
  | n + 1 => by
    show sumN (fun y => if y = k then v y else 0) n + (if n = k then v n else 0) = _
    rw [sumN_one v k n]
    by_cases c : n = k
    · rw [if_pos c, if_neg (by omega), if_pos (by omega), c]; omega
    · rw [if_neg c]
      by_cases e : k < n
      · rw [if_pos e, if_pos (by omega)]; omega
      · rw [if_neg e, if_neg (by omega)]; omega
theorem sumN_b {f : Nat → Int} {B : Int} : ∀ n, (∀ y, y < n → 0 ≤ f y ∧ f y ≤ B) → 0 ≤ sumN f n ∧ sumN f n ≤ B * n
  | 0, _ => by
    show (0 : Int) ≤ 0 ∧ (0 : Int) ≤ B * ((0 : Nat) : Int)
    rw [show ((0 : Nat) : Int) = 0 from rfl, Int.mul_zero]; omega
  | n + 1, h => by
    have h1 := sumN_b n (fun y hy => h y (by omega))
    have h2 := h n (by omega)
    show 0 ≤ sumN f n + f n ∧ sumN f n + f n ≤ B * ((n + 1 : Nat) : Int)
    rw [show ((n + 1 : Nat) : Int) = (n : Int) + 1 by omega, Int.mul_add, Int.mul_one]
    omega
section Loads
variable {N : Int} {on : Nat → Int} {dp : Nat → Nat}
theorem abv_self (hD : DP N on dp) (hN : N ≤ 60) {k : Nat} (hk : (k : Int) < N) : abv on k 60 k = true := by rw [abv_eq hD hN hk, if_pos rfl]
/-- what is under a child is under it -/
theorem abv_up (hD : DP N on dp) (hN : N ≤ 60) {k c : Nat} (hk : (k : Int) < N) (hc : (c : Int) < N) (e : on c = (k : Int)) : ∀ (f y : Nat), dp y = f → (y : Int) < N → abv on c 60 y = true → abv on k 60 y = true := by
  intro f
  induction f with
  | zero =>
    intro y hf hy h
    by_cases z : y = c
    · have := (hD c hc).2.2.2 (by omega)
      rw [z] at hf; omega
    · have := (abv_dp hD hN 0 y hf hy h z).1; omega
  | succ f ih =>
    intro y hf hy h
    rw [abv_eq hD hN hy]
    by_cases z0 : y = k
    · rw [if_pos z0]
    · rw [if_neg z0]
      by_cases z : y = c
      · rw [z, if_neg (by omega), e]
        exact abv_self hD hN hk
      · obtain ⟨b1, b2, b3⟩ := abv_dp hD hN (f + 1) y hf hy h z
        rw [if_neg (by omega)]
        have hd := (hD y hy).2.2.2 b2
        have hb := (hD y hy).1
        exact ih _ (by omega) (by omega) b3
/-- of two of one depth only one is above y -/
theorem abv_one (hD : DP N on dp) (hN : N ≤ 60) {c c' : Nat} (e : dp c = dp c') : ∀ (f y : Nat), dp y = f → (y : Int) < N → abv on c 60 y = true → abv on c' 60 y = true → c = c' := by
  intro f
  induction f with
  | zero =>
    intro y hf hy h h'
    have z : y = c := Decidable.byContradiction fun z => by have := (abv_dp hD hN 0 y hf hy h z).1; omega
    have z' : y = c' := Decidable.byContradiction fun z => by have := (abv_dp hD hN 0 y hf hy h' z).1; omega
    rw [← z, ← z']
  | succ f ih =>
    intro y hf hy h h'
    by_cases z : y = c
    · by_cases z' : y = c'
      · rw [← z, ← z']
      · have := (abv_dp hD hN _ y hf hy h' z').1
        rw [z] at this; omega
    · by_cases z' : y = c'
      · have := (abv_dp hD hN _ y hf hy h z).1
        rw [z'] at this; omega
      · obtain ⟨b1, b2, b3⟩ := abv_dp hD hN _ y hf hy h z
        obtain ⟨-, -, b3'⟩ := abv_dp hD hN _ y hf hy h' z'
        have hd := (hD y hy).2.2.2 b2
        have hb := (hD y hy).1
        exact ih _ (by omega) (by omega) b3 b3'
/-- what is under k but not k is under a child -/
theorem abv_child (hD : DP N on dp) (hN : N ≤ 60) {k : Nat} : ∀ (f y : Nat), dp y = f → (y : Int) < N → abv on k 60 y = true → y ≠ k → ∃ c : Nat, (c : Int) < N ∧ on c = (k : Int) ∧ abv on c 60 y = true := by
  intro f
  induction f with
  | zero =>
    intro y hf hy h z
    have := (abv_dp hD hN 0 y hf hy h z).1; omega
  | succ f ih =>
    intro y hf hy h z
    obtain ⟨b1, b2, b3⟩ := abv_dp hD hN _ y hf hy h z
    have hd := (hD y hy).2.2.2 b2
    have hb := (hD y hy).1
    by_cases e : (on y).toNat = k
    · exact ⟨y, hy, by omega, abv_self hD hN hy⟩
    · obtain ⟨c, c1, c2, c3⟩ := ih (on y).toNat (by omega) (by omega) b3 e
      refine ⟨c, c1, c2, ?_⟩
      rw [abv_eq hD hN hy]
      by_cases z2 : y = c
      · rw [if_pos z2]
      · rw [if_neg z2, if_neg (by omega)]; exact c3
end Loads
/-- the load of part k, v being what each part weighs -/
def ld (a : Hp) (v : Nat → Int) (k : Nat) : Int := sumN (fun y => if abv (a 60) k 60 y = true then v y else 0) (a 53 5).toNat
def sd (a : Hp) (v : Nat → Int) (s : Int) : Int := if 0 ≤ s then ld a v s.toNat else 0
theorem ld_b {a : Hp} {v : Nat → Int} {B : Int} (hI : Inv a) (hB : 0 ≤ B) (hv : ∀ y : Nat, (y : Int) < a 53 5 → 0 ≤ v y ∧ v y ≤ B) (k : Nat) : 0 ≤ ld a v k ∧ ld a v k ≤ B * 60 := by
  have h1 := hI.1
  have h := sumN_b (f := fun y => if abv (a 60) k 60 y = true then v y else 0) (B := B) (a 53 5).toNat (fun y hy => by
    have := hv y (by omega)
    show 0 ≤ (if abv (a 60) k 60 y = true then v y else 0) ∧ (if abv (a 60) k 60 y = true then v y else 0) ≤ B
    split <;> omega)
  refine ⟨h.1, Int.le_trans h.2 (Int.mul_le_mul_of_nonneg_left (by omega) hB)⟩
theorem ld_eq {a : Hp} {v : Nat → Int} (hI : Inv a) {k : Nat} (hk : (k : Int) < a 53 5) : ld a v k = v k + sd a v (a 66 k) + sd a v (a 67 k) := by
  obtain ⟨dp, hD⟩ := hI.dp
  have hN := hI.1.2
  have hp := (hI.2.2.1 k hk).1
  obtain ⟨l1, l2, l3⟩ := hp.2.2.2.1
  obtain ⟨r1, r2, r3⟩ := hp.2.2.2.2
  have side : ∀ s : Int, sd a v s = sumN (fun y => if 0 ≤ s ∧ abv (a 60) s.toNat 60 y = true then v y else 0) (a 53 5).toNat := fun s => by
    unfold sd ld
    by_cases c : 0 ≤ s
    · rw [if_pos c]
      exact sumN_cg _ fun y _ => by simp only [c, true_and]
    · rw [if_neg c]
      refine Eq.trans (sumN_zero (a 53 5).toNat).symm ?_
      exact sumN_cg _ fun y _ => (if_neg (c := 0 ≤ s ∧ abv (a 60) s.toNat 60 y = true) (fun z => c z.1)).symm
  rw [side, side, show v k = (if k < (a 53 5).toNat then v k else 0) by rw [if_pos (by omega)], ← sumN_one v k (a 53 5).toNat, ← sumN_add, ← sumN_add]
  unfold ld
  refine sumN_cg _ fun y hy => ?_
  have hyN : (y : Int) < a 53 5 := by omega
  have up6 : 0 ≤ a 66 k → abv (a 60) (a 66 k).toNat 60 y = true → abv (a 60) k 60 y = true := fun z => abv_up hD hN hk (by omega) (l3 z).1 _ y rfl hyN
  have up7 : 0 ≤ a 67 k → abv (a 60) (a 67 k).toNat 60 y = true → abv (a 60) k 60 y = true := fun z => abv_up hD hN hk (by omega) (r3 z).1 _ y rfl hyN
  have d6 : 0 ≤ a 66 k → dp (a 66 k).toNat = dp k + 1 := fun z => by
    have := (hD (a 66 k).toNat (by omega)).2.2.2 (by rw [(l3 z).1]; omega)
    rw [(l3 z).1] at this; exact this
  have d7 : 0 ≤ a 67 k → dp (a 67 k).toNat = dp k + 1 := fun z => by
    have := (hD (a 67 k).toNat (by omega)).2.2.2 (by rw [(r3 z).1]; omega)
    rw [(r3 z).1] at this; exact this
  by_cases e : y = k
  · subst e
    have n6 : ¬ (0 ≤ a 66 y ∧ abv (a 60) (a 66 y).toNat 60 y = true) := fun z => by
      have := d6 z.1
      by_cases w : y = (a 66 y).toNat
      · rw [← w] at this; omega
      · have := (abv_dp hD hN _ y rfl hyN z.2 w).1; omega
    have n7 : ¬ (0 ≤ a 67 y ∧ abv (a 60) (a 67 y).toNat 60 y = true) := fun z => by
      have := d7 z.1
      by_cases w : y = (a 67 y).toNat
      · rw [← w] at this; omega
      · have := (abv_dp hD hN _ y rfl hyN z.2 w).1; omega
    rw [if_pos (abv_self hD hN hyN), if_pos rfl, if_neg n6, if_neg n7]; omega
  · rw [if_neg e]
    by_cases c : abv (a 60) k 60 y = true
    · rw [if_pos c]
      obtain ⟨x, x1, x2, x3⟩ := abv_child hD hN _ y rfl hyN c e
      rcases ((hI.2.2.1 x x1).1.2.2.1 (by omega)).2.2 with ⟨q1, q2⟩ | ⟨q1, q2⟩
      · rw [x2] at q2
        have q2 : a 66 k = (x : Int) := q2
        have n7 : ¬ (0 ≤ a 67 k ∧ abv (a 60) (a 67 k).toNat 60 y = true) := fun z => by
          have h1 := d7 z.1
          have h2 := d6 (by omega)
          rw [q2] at h2
          have h2 : dp x = dp k + 1 := h2
          have := abv_one hD hN (show dp x = dp (a 67 k).toNat by omega) _ y rfl hyN x3 z.2
          have h5 := (r3 z.1).2
          rw [← this] at h5; omega
        rw [if_pos ⟨by omega, by rw [q2]; exact x3⟩, if_neg n7]; omega
      · rw [x2] at q2
        have q2 : a 67 k = (x : Int) := q2
        have n6 : ¬ (0 ≤ a 66 k ∧ abv (a 60) (a 66 k).toNat 60 y = true) := fun z => by
          have h1 := d6 z.1
          have h2 := d7 (by omega)
          rw [q2] at h2
          have h2 : dp x = dp k + 1 := h2
          have := abv_one hD hN (show dp x = dp (a 66 k).toNat by omega) _ y rfl hyN x3 z.2
          have h5 := (l3 z.1).2
          rw [← this] at h5; omega
        rw [if_neg n6, if_pos ⟨by omega, by rw [q2]; exact x3⟩]; omega
    · rw [if_neg c, if_neg (fun z => c (up6 z.1 z.2)), if_neg (fun z => c (up7 z.1 z.2))]; omega
