/-! THE GREATEST COMMON DIVISOR -/
section Gcd
variable {d n : Nat} {dy : Nat → Shp} {g : Hp} {P : Pst}
theorem ab_nat (x : Int) : ab x = ((x.natAbs : Nat) : Int) := by
  unfold ab
  omega
theorem gcd_step (m k : Nat) : Nat.gcd m k = Nat.gcd k (m % k) := by
  rw [Nat.gcd_comm m k, Nat.gcd_rec k m, Nat.gcd_comm]
theorem tmod_nat (m k : Nat) : ((m : Nat) : Int).tmod (k : Int) = ((m % k : Nat) : Int) := rfl
abbrev mx6 : Nat := 9223372036854775807
theorem spX12_common {x y : Int} (hn : 100 ≤ n) (hx : x.natAbs ≤ mx6) (hy : y.natAbs ≤ mx6) (h : P (some (L_ ((Int.gcd x y : Nat) : Int))) n (W0 dy) g) : Runs miX12_common (d + 1) [L_ x, L_ y] n (W0 dy) g P := by
  unfold mx6 at hx hy
  have key : ∀ (f k m : Nat), k ≤ f → k ≤ 9223372036854775807 → m ≤ 9223372036854775807 → Nat.gcd m k = Int.gcd x y → V miX12_common (d + 1) 12 [(0, L_ x), (2, L_ y), (4, L_ (m : Int)), (6, L_ (k : Int))] [] n (W0 dy) g 0 0 P := by
    intro f
    induction f with
    | zero =>
      intro k m hk hk2 hm hg
      have e : k = 0 := by omega
      subst e
      rw [Nat.gcd_zero_right] at hg
      exact bX12_common_12 hn ⟨by decide, fun _ => by rw [hg]; exact h, fun q => absurd rfl q⟩
    | succ f ih =>
      intro k m hk hk2 hm hg
      by_cases e : k = 0
      · subst e
        rw [Nat.gcd_zero_right] at hg
        exact bX12_common_12 hn ⟨by decide, fun _ => by rw [hg]; exact h, fun q => absurd rfl q⟩
      · have hlt : m % k < k := Nat.mod_lt _ (by omega)
        refine bX12_common_12 hn ⟨⟨by omega, by omega⟩, fun q => by omega, fun q => ⟨⟨by omega, by omega⟩, q, ?_⟩⟩
        rw [tmod_nat]
        exact ih (m % k) k (by omega) (by omega) hk2 (by rw [← gcd_step]; exact hg)
  refine wX12_common hn ⟨⟨by omega, by omega⟩, ⟨by omega, by omega⟩, ?_⟩
  rw [ab_nat, ab_nat]
  exact key y.natAbs y.natAbs x.natAbs (Nat.le_refl _) hy hx rfl
theorem mod_half (m k : Nat) (h : 0 < k) (hk : k ≤ m) : 2 * (m % k) < m := by
  have h1 : m % k < k := Nat.mod_lt _ h
  have h2 : k * (m / k) + m % k = m := Nat.div_add_mod m k
  have h3 : 1 ≤ m / k := Nat.div_pos hk h
  have h4 : k * 1 ≤ k * (m / k) := Nat.mul_le_mul_left k h3
  omega
/-- the class's Euclid comes to its end before its 200th step -/
theorem cs_common {x y : Int} (hn : 100 ≤ n) (hx : x.natAbs ≤ mx6) (hy : y.natAbs ≤ mx6) (h : P (some (L_ (if Int.gcd x y = 0 then 1 else ((Int.gcd x y : Nat) : Int)))) n (W0 dy) g) : Runs miX11_commonDivisor (d + 1) [L_ x, L_ y] n (W0 dy) g P := by
  unfold mx6 at hx hy
  have fin : ∀ (m : Nat) (st : Int), m ≤ 9223372036854775807 → (0 ≤ st ∧ st ≤ 200) → m = Int.gcd x y → V miX11_commonDivisor (d + 1) 15 [(0, L_ x), (2, L_ y), (4, L_ (m : Int)), (6, L_ ((0 : Nat) : Int)), (8, I_ st)] [] n (W0 dy) g 0 0 P := by
    intro m st hm hs hg
    have a1 : (m : Int) ≠ 0 → P (some (L_ (m : Int))) n (W0 dy) g := fun q => by
      rw [if_neg (by omega), ← hg] at h; exact h
    have a2 : (m : Int) = 0 → P (some (L_ 1)) n (W0 dy) g := fun q => by
      rw [if_pos (by omega)] at h; exact h
    exact bX11_commonDivisor_15 hn ⟨⟨by omega, by omega⟩, fun _ => ⟨⟨by omega, by omega⟩, a1, a2⟩, fun _ => ⟨by decide, fun _ => ⟨⟨by omega, by omega⟩, a1, a2⟩, fun q => absurd rfl q⟩⟩
  have key : ∀ (f k m : Nat) (st : Int), k < 2 ^ f → (0 ≤ st ∧ st + 2 * f ≤ 200) → k ≤ 9223372036854775807 → m ≤ 9223372036854775807 → Nat.gcd m k = Int.gcd x y → V miX11_commonDivisor (d + 1) 15 [(0, L_ x), (2, L_ y), (4, L_ (m : Int)), (6, L_ (k : Int)), (8, I_ st)] [] n (W0 dy) g 0 0 P := by
    intro f
    induction f with
    | zero =>
      intro k m st hk hs hk2 hm hg
      have e : k = 0 := by simp at hk; exact hk
      subst e
      rw [Nat.gcd_zero_right] at hg
      exact fin m st hm (by omega) hg
    | succ f ih =>
      intro k m st hk hs hk2 hm hg
      by_cases e : k = 0
      · subst e
        rw [Nat.gcd_zero_right] at hg
        exact fin m st hm (by omega) hg
      · have hlt : m % k < k := Nat.mod_lt _ (by omega)
        have hg1 : Nat.gcd k (m % k) = Int.gcd x y := by rw [← gcd_step]; exact hg
        refine bX11_commonDivisor_15 hn ⟨⟨by omega, by omega⟩, fun q => by omega, fun _ => ⟨⟨by omega, by omega⟩, fun q => by omega, fun q => ⟨⟨by omega, by omega⟩, q, ?_⟩⟩⟩
        rw [tmod_nat]
        generalize m % k = r at *
        by_cases e2 : r = 0
        · subst e2
          rw [Nat.gcd_zero_right] at hg1
          exact fin k (st + 1) hk2 (by omega) hg1
        · have hlt2 : k % r < r := Nat.mod_lt _ (by omega)
          have hh := mod_half k r (by omega) (by omega)
          have hp : (2 : Nat) ^ (f + 1) = 2 * 2 ^ f := by rw [Nat.pow_succ]; omega
          rw [hp] at hk
          refine bX11_commonDivisor_15 hn ⟨⟨by omega, by omega⟩, fun q => by omega, fun _ => ⟨⟨by omega, by omega⟩, fun q => by omega, fun q => ⟨⟨by omega, by omega⟩, q, ?_⟩⟩⟩
          rw [tmod_nat]
          exact ih (k % r) r (st + 1 + 1) (by omega) (by omega) (by omega) (by omega) (by rw [← gcd_step]; exact hg1)
  refine wX11_commonDivisor hn ⟨⟨by omega, by omega⟩, ⟨by omega, by omega⟩, ?_⟩
  rw [ab_nat, ab_nat]
  refine key 63 y.natAbs x.natAbs 0 ?_ (by decide) hy hx rfl
  have : (2 : Nat) ^ 63 = 9223372036854775808 := by decide
  omega
end Gcd
