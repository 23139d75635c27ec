/-! SHARES: what hangs level parts the sum of all in one way -/
def bm6 (x : Int) : Int := (Int64.ofInt x).toInt
theorem bm6_L (x : Int) : L_ (bm6 x) = L_ x := by
  show Value.long (Int64.ofInt (Int64.ofInt x).toInt) = Value.long (Int64.ofInt x)
  rw [Int64.ofInt_toInt]
theorem bm6_is (x : Int) : bm6 x = x.bmod (2 ^ 64) := Int64.toInt_ofInt ..
theorem bm6_r (x : Int) : i6 (bm6 x) := by
  rw [bm6_is]
  have h1 := Int.le_bmod (x := x) (m := 2 ^ 64) (by decide)
  have h2 := Int.bmod_lt (x := x) (m := 2 ^ 64) (by decide)
  constructor <;> omega
theorem bm6_id {x : Int} (h : i6 x) : bm6 x = x := by
  rw [bm6_is]
  have := h.1
  have := h.2
  exact Int.bmod_eq_of_le (by omega) (by omega)
theorem bm6_dvd (x : Int) : ∃ q, x = bm6 x + 18446744073709551616 * q := by
  rw [bm6_is]
  refine ⟨x.bdiv (2 ^ 64), ?_⟩
  have := Int.bmod_add_bdiv x (2 ^ 64)
  omega
/-- one step down: the fraction T / L by A / B, made smaller by what both have in common, in the machine's numbers -/
def Rl (T L A B T' L' : Int) : Prop := ∃ c : Int, c ≠ 0 ∧ i6 c ∧ c.natAbs = Int.gcd (bm6 (T * A)) (bm6 (L * B)) ∧ (0 ≤ bm6 (T * A) → 0 ≤ bm6 (L * B) → 0 < c) ∧ T' = bm6 ((bm6 (T * A)).tdiv c) ∧ L' = bm6 ((bm6 (L * B)).tdiv c)
def od (T L : Int) : Prop := ¬ (T % 2 = 0 ∧ L % 2 = 0)
theorem tdiv_of {x c : Int} (h0 : c ≠ 0) (h : c ∣ x) : x.tdiv c * c = x := Int.tdiv_mul_cancel h
theorem gcd_q {x y c : Int} (h0 : c ≠ 0) (h : c.natAbs = Int.gcd x y) : Int.gcd (x.tdiv c) (y.tdiv c) = 1 := by
  have d1 : c ∣ x := Int.natAbs_dvd.mp (by rw [h]; exact Int.gcd_dvd_left ..)
  have d2 : c ∣ y := Int.natAbs_dvd.mp (by rw [h]; exact Int.gcd_dvd_right ..)
  have e1 := tdiv_of h0 d1
  have e2 := tdiv_of h0 d2
  have e3 := Int.gcd_mul_right (x.tdiv c) c (y.tdiv c)
  rw [e1, e2, ← h] at e3
  have h1 : 0 < c.natAbs := by omega
  have h2 : 1 * c.natAbs = Int.gcd (x.tdiv c) (y.tdiv c) * c.natAbs := by omega
  exact (Nat.eq_of_mul_eq_mul_right h1 h2).symm
theorem bm6_par (x : Int) : bm6 x % 2 = x % 2 := by
  obtain ⟨q, e⟩ := bm6_dvd x
  omega
theorem Rl_od {T L A B T' L' : Int} (h : Rl T L A B T' L') : od T' L' := by
  obtain ⟨c, h0, _, h1, _, e1, e2⟩ := h
  have hg := gcd_q h0 h1
  rintro ⟨p1, p2⟩
  rw [e1, bm6_par] at p1
  rw [e2, bm6_par] at p2
  have d : 2 ∣ Int.gcd ((bm6 (T * A)).tdiv c) ((bm6 (L * B)).tdiv c) := Int.dvd_gcd (Int.dvd_of_emod_eq_zero p1) (Int.dvd_of_emod_eq_zero p2)
  rw [hg] at d
  exact absurd d (by decide)
theorem odd_big {T A : Int} (h : T % 2 ≠ 0) (hA : 1 ≤ A ∧ A ≤ 1000) : bm6 (T * A) ≠ 0 := by
  intro e
  obtain ⟨q, e'⟩ := bm6_dvd (T * A)
  rw [e, Int.zero_add] at e'
  have d : (18446744073709551616 : Int) ∣ T * A := ⟨q, e'⟩
  have d1 : ((18446744073709551616 : Nat) : Int) ∣ T * A := d
  have d' : (2 ^ 64 : Nat) ∣ T.natAbs * A.natAbs := by
    rw [← Int.natAbs_mul, show (2 ^ 64 : Nat) = 18446744073709551616 from rfl]
    exact Int.ofNat_dvd_left.mp d1
  have c : Nat.Coprime (2 ^ 64) T.natAbs := by
    refine Nat.Coprime.pow_left 64 ?_
    have : T.natAbs % 2 = 1 := by omega
    rw [Nat.coprime_iff_gcd_eq_one, Nat.gcd_rec, this]
    decide
  have d2 := Nat.le_of_dvd (by omega) (c.dvd_of_dvd_mul_left d')
  omega
theorem Rl_ne {T L A B : Int} (h : od T L) (hA : 1 ≤ A ∧ A ≤ 1000) (hB : 1 ≤ B ∧ B ≤ 1000) : Int.gcd (bm6 (T * A)) (bm6 (L * B)) ≠ 0 := by
  intro e
  rw [Int.gcd_eq_zero_iff] at e
  rcases Classical.em (T % 2 = 0) with c | c
  · exact odd_big (fun z => h ⟨c, z⟩) hB e.2
  · exact odd_big c hA e.1
theorem Rl_ex {T L A B T' L' : Int} (h : Rl T L A B T' L') (hT : 0 < T * A) (hT' : T * A ≤ 9223372036854775807) (hL : 0 < L * B) (hL' : L * B ≤ 9223372036854775807) : ∃ c, 0 < c ∧ T' * c = T * A ∧ L' * c = L * B ∧ Int.gcd T' L' = 1 := by
  obtain ⟨c, h0, _, h1, hp, e1, e2⟩ := h
  rw [bm6_id (x := T * A) ⟨by omega, by omega⟩] at h1 hp e1
  rw [bm6_id (x := L * B) ⟨by omega, by omega⟩] at h1 hp e2
  have hc := hp (by omega) (by omega)
  have d1 : c ∣ T * A := Int.natAbs_dvd.mp (by rw [h1]; exact Int.gcd_dvd_left ..)
  have d2 : c ∣ L * B := Int.natAbs_dvd.mp (by rw [h1]; exact Int.gcd_dvd_right ..)
  have q1 := tdiv_of h0 d1
  have q2 := tdiv_of h0 d2
  have hg := gcd_q h0 h1
  have b : ∀ x : Int, 0 < x → x ≤ 9223372036854775807 → i6 (x.tdiv c) := fun x hx hx' => by
    rw [Int.tdiv_eq_ediv_of_nonneg (by omega)]
    have := Int.ediv_nonneg (a := x) (b := c) (by omega) (by omega)
    have := Int.ediv_le_self (a := x) c (by omega)
    exact ⟨by omega, by omega⟩
  rw [bm6_id (b _ hT hT')] at e1
  rw [bm6_id (b _ hL hL')] at e2
  rw [← e1] at q1 hg
  rw [← e2] at q2 hg
  exact ⟨c, hc, q1, q2, hg⟩
/-- powers of two: a factor below 1024 bears at most nine -/
theorem val_mul : ∀ (t s : Nat) (x y : Int), (2 : Int) ^ (s + t) ∣ x * y → ¬ (2 : Int) ^ t ∣ y → (2 : Int) ^ (s + 1) ∣ x
  | 0, s, x, y, _, h => absurd (by rw [Int.pow_zero]; exact Int.one_dvd _) h
  | t + 1, s, x, y, hd, h => by
    by_cases c : y % 2 = 0
    · obtain ⟨y', e⟩ := Int.dvd_of_emod_eq_zero c
      subst e
      refine val_mul t s x y' ?_ fun z => h ?_
      · rw [show s + (t + 1) = (s + t) + 1 by omega, Int.pow_succ, show x * (2 * y') = (x * y') * 2 by grind] at hd
        exact Int.dvd_of_mul_dvd_mul_right (by decide) hd
      · rw [Int.pow_succ, Int.mul_comm 2 y']
        exact Int.mul_dvd_mul_right 2 z
    · have h1 : ((2 ^ (s + (t + 1)) : Nat) : Int) ∣ x * y := by
        rw [Int.natCast_pow]; exact hd
      have h2 := Int.ofNat_dvd_left.mp h1
      rw [Int.natAbs_mul] at h2
      have hc : Nat.Coprime (2 ^ (s + (t + 1))) y.natAbs := by
        refine Nat.Coprime.pow_left _ ?_
        have : y.natAbs % 2 = 1 := by omega
        rw [Nat.coprime_iff_gcd_eq_one, Nat.gcd_rec, this]
        decide
      have h3 := hc.dvd_of_dvd_mul_right h2
      have h4 : (2 : Nat) ^ (s + 1) ∣ 2 ^ (s + (t + 1)) := Nat.pow_dvd_pow 2 (by omega)
      have h5 := Int.ofNat_dvd_left.mpr (Nat.dvd_trans h4 h3)
      rw [Int.natCast_pow] at h5
      exact h5
theorem Rl_val {T L A B T' L' : Int} {j : Nat} (hj : j ≤ 6) (h : Rl T L A B T' L') (hB : 1 ≤ B ∧ B ≤ 1000) (hL : ¬ (2 : Int) ^ (9 * j + 1) ∣ L) : ¬ (2 : Int) ^ (9 * (j + 1) + 1) ∣ L' := by
  intro hd
  obtain ⟨c, h0, _, h1, _, _, e2⟩ := h
  have d2 : c ∣ bm6 (L * B) := Int.natAbs_dvd.mp (by rw [h1]; exact Int.gcd_dvd_right ..)
  have q2 := tdiv_of h0 d2
  have p64 : ∀ x : Int, (2 : Int) ^ (9 * (j + 1) + 1) ∣ bm6 x → (2 : Int) ^ (9 * (j + 1) + 1) ∣ x := fun x hx => by
    obtain ⟨q, e⟩ := bm6_dvd x
    rw [e]
    refine Int.dvd_add hx (Int.dvd_trans ?_ (Int.dvd_mul_right _ q))
    have : ((2 ^ (9 * (j + 1) + 1) : Nat) : Int) ∣ ((2 ^ 64 : Nat) : Int) := Int.natCast_dvd_natCast.mpr (Nat.pow_dvd_pow 2 (by omega))
    rw [Int.natCast_pow] at this
    exact this
  rw [e2] at hd
  have h2 := p64 _ hd
  have h3 : (2 : Int) ^ (9 * (j + 1) + 1) ∣ bm6 (L * B) := by
    rw [← q2]
    exact Int.dvd_trans h2 (Int.dvd_mul_right _ _)
  have h4 := p64 _ h3
  refine hL (val_mul 10 (9 * j) L B ?_ fun z => ?_)
  · rw [show 9 * (j + 1) + 1 = 9 * j + 10 by omega] at h4; exact h4
  · have := Int.le_of_dvd (by omega) z
    have e : (2 : Int) ^ 10 = 1024 := by decide
    omega
def arL (a : Hp) (k : Nat) : Int := (a 59 k * a 64 k).tdiv (a 65 k)
def arR (a : Hp) (k : Nat) : Int := a 59 k - arL a k
/-- level down to all ends, with whole numbers all over -/
def whS (a : Hp) : Nat → Int → Int → Prop
  | 0, c, _ => c < 0
  | f + 1, c, x => c < 0 ∨ (a 59 c.toNat ∣ x * arR a c.toNat ∧ whS a f (a 66 c.toNat) (x * arR a c.toNat / a 59 c.toNat) ∧ whS a f (a 67 c.toNat) (x - x * arR a c.toNat / a 59 c.toNat))
/-- what each end bears, from left to right -/
def toS (a : Hp) : Nat → Int → Int → List Int
  | 0, _, x => [x]
  | f + 1, c, x => if c < 0 then [x] else toS a f (a 66 c.toNat) (x * arR a c.toNat / a 59 c.toNat) ++ toS a f (a 67 c.toNat) (x - x * arR a c.toNat / a 59 c.toNat)
theorem toS_len (a : Hp) : ∀ (f : Nat) (c x y : Int), (toS a f c x).length = (toS a f c y).length
  | 0, _, _, _ => rfl
  | f + 1, c, x, y => by
    unfold toS
    split
    · rfl
    · rw [List.length_append, List.length_append, toS_len a f (a 66 c.toNat) _ (y * arR a c.toNat / a 59 c.toNat), toS_len a f (a 67 c.toNat) _ (y - y * arR a c.toNat / a 59 c.toNat)]
/-- how many rods there are on a side -/
def nrS (a : Hp) (c : Int) : Int := sd a (fun _ => 1) c
/-- an end's share is whole -/
def okE (all F L : Int) : Prop := L ≤ all ∧ (bm6 (all * F)).tmod L = 0
theorem okE_dvd {all F L : Int} (h0 : 0 < all) (ha : all ≤ 10000000) (hF : 0 < F) (hL : F ≤ L) (h : okE all F L) : L ∣ all * F := by
  have h1 : all * F ≤ 10000000 * 10000000 := Int.mul_le_mul ha (by have := h.1; omega) (by omega) (by omega)
  have h2 : 0 < all * F := Int.mul_pos h0 hF
  have h3 := h.2
  rw [bm6_id ⟨by omega, by omega⟩] at h3
  exact Int.dvd_of_tmod_eq_zero h3
theorem dvd_okE {all F L : Int} (h0 : 0 < all) (ha : all ≤ 10000000) (hF : 0 < F) (hL : F ≤ L) (hg : Int.gcd F L = 1) (h : L ∣ all * F) : okE all F L := by
  have d : L ∣ all := by
    have h' : L.natAbs ∣ all.natAbs * F.natAbs := by
      rw [← Int.natAbs_mul]; exact Int.natAbs_dvd_natAbs.mpr h
    have hc : Nat.Coprime L.natAbs F.natAbs := by
      rw [Nat.coprime_iff_gcd_eq_one, Nat.gcd_comm]; exact hg
    exact Int.natAbs_dvd_natAbs.mp (hc.dvd_of_dvd_mul_right h')
  have hle := Int.le_of_dvd h0 d
  have h1 : all * F ≤ 10000000 * 10000000 := Int.mul_le_mul ha (by omega) (by omega) (by omega)
  have h2 : 0 < all * F := Int.mul_pos h0 hF
  exact ⟨hle, by rw [bm6_id ⟨by omega, by omega⟩]; exact Int.tmod_eq_zero_of_dvd h⟩
/-- what is known of a side c with the fraction T / L, whose ends are those from E to E' -/
def Fs (a : Hp) (all : Int) (g : Hp) (E E' : Nat) (c T L : Int) (j : Nat) : Prop :=
  ∀ f : Nat, nrS a c ≤ f → (∀ x, E' = E + (toS a f c x).length) ∧
    (0 < T → T ≤ L → (c < 0 ∨ (L ≤ 1000 ^ j ∧ j + nrS a c ≤ 6)) → (∀ e, E ≤ e → e < E' → okE all (g 92 e) (g 93 e)) → L ∣ all * T) ∧
    (0 < T → T ≤ L → Int.gcd T L = 1 → L ≤ 1000 ^ j → j + nrS a c ≤ 7 → L ∣ all * T → (∀ e, E ≤ e → e < E' → okE all (g 92 e) (g 93 e)) → whS a f c (all * T / L)) ∧
    (0 < T → T ≤ L → Int.gcd T L = 1 → L ∣ all * T → whS a f c (all * T / L) → (∀ e, E ≤ e → e < E' → okE all (g 92 e) (g 93 e)) ∧ ∀ i y, (toS a f c (all * T / L))[i]? = some y → y * g 93 (E + i) = all * g 92 (E + i) ∧ 0 < g 93 (E + i)) ∧
    (¬ (2 : Int) ^ (9 * j + 1) ∣ L → j + nrS a c ≤ 7 → ∀ e, E ≤ e → e < E' → g 93 e ≠ 0)
theorem Fs_cg {a g g' : Hp} {all c T L : Int} {E E' j : Nat} (h : Fs a all g E E' c T L j) (e : ∀ x, x < E' → g' 92 x = g 92 x ∧ g' 93 x = g 93 x) : Fs a all g' E E' c T L j := fun f hf => by
  obtain ⟨h0, h1, h2, h3, h4⟩ := h f hf
  have ek : (∀ e, E ≤ e → e < E' → okE all (g' 92 e) (g' 93 e)) → ∀ e, E ≤ e → e < E' → okE all (g 92 e) (g 93 e) := fun q x hx hx' => by
    have := q x hx hx'
    rw [(e x hx').1, (e x hx').2] at this
    exact this
  refine ⟨h0, fun a1 a2 a3 a4 => h1 a1 a2 a3 (ek a4), fun a1 a2 a3 a4 a5 a6 a7 => h2 a1 a2 a3 a4 a5 a6 (ek a7), fun a1 a2 a3 a4 a5 => ?_, fun a1 a2 x hx hx' => by rw [(e x hx').2]; exact h4 a1 a2 x hx hx'⟩
  obtain ⟨q1, q2⟩ := h3 a1 a2 a3 a4 a5
  refine ⟨fun x hx hx' => by rw [(e x hx').1, (e x hx').2]; exact q1 x hx hx', fun i y hi => ?_⟩
  have hl : i < (toS a f c (all * T / L)).length := (List.getElem?_eq_some_iff.mp hi).1
  have := h0 (all * T / L)
  rw [(e (E + i) (by omega)).1, (e (E + i) (by omega)).2]
  exact q2 i y hi
theorem Fs_end {a g : Hp} {all c T L : Int} {E j : Nat} (h0 : 0 < all) (ha : all ≤ 10000000) (hc : c < 0) (e1 : g 92 E = T) (e2 : g 93 E = L) : Fs a all g E (E + 1) c T L j := fun f hf => by
  have ht : ∀ x, toS a f c x = [x] := fun x => by
    cases f with
    | zero => rfl
    | succ f => unfold toS; rw [if_pos hc]
  have hw : ∀ x, whS a f c x := fun x => by
    cases f with
    | zero => exact hc
    | succ f => exact Or.inl hc
  refine ⟨fun x => by rw [ht]; rfl, fun a1 a2 _ a4 => ?_, fun _ _ _ _ _ _ _ => hw _, fun a1 a2 a3 a4 _ => ⟨fun x hx hx' => ?_, fun i y hi => ?_⟩, fun a1 _ x hx hx' => ?_⟩
  · have := a4 E (Nat.le_refl E) (by omega)
    rw [e1, e2] at this
    exact okE_dvd h0 ha a1 a2 this
  · have : x = E := by omega
    subst this
    rw [e1, e2]
    exact dvd_okE h0 ha a1 a2 a3 a4
  · rw [ht] at hi
    cases i with
    | zero =>
      rw [List.getElem?_cons_zero] at hi
      have := Option.some.inj hi
      subst this
      rw [Nat.add_zero, e1, e2]
      exact ⟨Int.ediv_mul_cancel a4, by omega⟩
    | succ i => rw [List.getElem?_cons_succ, List.getElem?_nil] at hi; cases hi
  · have : x = E := by omega
    subst this
    rw [e2]
    exact fun z => a1 (by rw [z]; exact Int.dvd_zero _)
