/-! FEWEST: which sets leave all level -/
theorem abv_tr {N : Int} {on : Nat → Int} {dp : Nat → Nat} (hD : DP N on dp) (hN : N ≤ 60) {k c : Nat} (h : abv on k 60 c = true) : ∀ f y : Nat, dp y = f → (y : Int) < N → abv on c 60 y = true → abv on k 60 y = true := by
  intro f
  induction f with
  | zero =>
    intro y hf hy ha
    have e : y = c := Decidable.byContradiction fun z => by have := (abv_dp hD hN _ y hf hy ha z).1; omega
    rw [e]; exact h
  | succ f ih =>
    intro y hf hy ha
    by_cases e : y = c
    · rw [e]; exact h
    · obtain ⟨-, b2, b3⟩ := abv_dp hD hN _ y hf hy ha e
      have hd := (hD y hy).2.2.2 b2
      have hon := (hD y hy).1
      rw [abv_eq hD hN hy]
      split
      · rfl
      · rw [if_neg (by omega)]; exact ih _ (by omega) (by omega) b3
section Fewest3
variable {d n : Nat} {dy : Nat → Shp} {b : Hp} {P : Pst} {k : Nat}
theorem wrs_0 (v : Nat → Int) (k : Nat) : ∀ m : Nat, wrs b v k m = 0 ↔ ∀ y : Nat, y < m → abv (b 60) k 60 y = true → (b 57 y = 2 ∨ b 57 y = 3) → lnv b v y = 0
  | 0 => ⟨fun _ y hy => by omega, fun _ => rfl⟩
  | m + 1 => by
    have ih := wrs_0 v k m
    have nn : 0 ≤ wrs b v k m := by
      unfold wrs
      refine (sumN_b (B := 1) m fun y _ => ?_).1
      unfold wrv
      repeat' split
      all_goals omega
    have un : wrs b v k (m + 1) = wrs b v k m + (if abv (b 60) k 60 m = true then wrv b v m else 0) := rfl
    rw [un]
    constructor
    · intro h y hy ha rod
      have t : 0 ≤ (if abv (b 60) k 60 m = true then wrv b v m else 0) := by
        unfold wrv
        repeat' split
        all_goals omega
      by_cases e : y = m
      · subst e
        rw [if_pos ha] at h t
        unfold wrv at h t
        by_cases z : lnv b v y = 0
        · exact z
        · rw [if_pos ⟨rod, z⟩] at h; omega
      · exact ih.mp (by omega) y (by omega) ha rod
    · intro h
      rw [ih.mpr fun y hy => h y (by omega)]
      by_cases c : abv (b 60) k 60 m = true
      · rw [if_pos c]
        unfold wrv
        rw [if_neg fun z => z.2 (h m (Nat.lt_succ_self m) c z.1)]; rfl
      · rw [if_neg c]; rfl
theorem wrs_b (hI : Inv b) (v : Nat → Int) (k : Nat) : 0 ≤ wrs b v k (b 53 5).toNat ∧ wrs b v k (b 53 5).toNat ≤ 60 := by
  have hN := hI.1
  have := sumN_b (f := fun y => if abv (b 60) k 60 y = true then wrv b v y else 0) (B := 1) (b 53 5).toNat (fun y _ => by
    show 0 ≤ (if abv (b 60) k 60 y = true then wrv b v y else 0) ∧ (if abv (b 60) k 60 y = true then wrv b v y else 0) ≤ 1
    unfold wrv
    repeat' split
    all_goals omega)
  have e : wrs b v k (b 53 5).toNat = sumN (fun y => if abv (b 60) k 60 y = true then wrv b v y else 0) (b 53 5).toNat := rfl
  omega
/-- gn: what is gone of the weights W, as the set S says -/
def GN (b : Hp) (W : List Nat) (S : Nat) (gn : Nat → Bool) : Prop := (∀ i y : Nat, W[i]? = some y → (gn y = true ↔ S.testBit (W.length - 1 - i) = true)) ∧ ∀ y : Nat, (y : Int) < b 53 5 → y ∉ W → gn y = false
theorem lvl_iff {S : Nat} {gn : Nat → Bool} (hI : Inv b) (hk : (k : Int) < b 53 5) (hl : ∀ y : Nat, y < (b 53 5).toNat → abv (b 60) k 60 y = true → (b 57 y = 2 ∨ b 57 y = 3) → lnv b (b 63) y = 0) (hS : S < 2 ^ (wts b k (b 53 5).toNat).length) (hG : GN b (wts b k (b 53 5).toNat) S gn) : wrs b (vS b gn) k (b 53 5).toNat = 0 ↔ (S = 0 ∨ (S = 2 ^ (wts b k (b 53 5).toNat).length - 1 ∧ bareP b k)) := by
  have hN := hI.1
  obtain ⟨dp, hD⟩ := hI.dp
  have hW : ∀ y, y ∈ wts b k (b 53 5).toNat ↔ (y < (b 53 5).toNat ∧ Wt b k y) := fun y => wts_in _
  generalize wts b k (b 53 5).toNat = W at *
  have hx : ∀ y : Nat, (y : Int) < b 53 5 → 0 ≤ xS b gn y := fun y hy => (xS_b hI gn hy).1
  have wN : ∀ y, y ∈ W → (y : Int) < b 53 5 := fun y hy => by have := ((hW y).mp hy).1; omega
  have hr : ∀ y : Nat, (y : Int) < b 53 5 → (b 57 y = 2 ∨ b 57 y = 3) → xS b gn y = 0 := fun y hy rod => by
    have : y ∉ W := fun z => by have := ((hW y).mp z).2.2; omega
    unfold xS
    rw [hG.2 y hy this]; rfl
  have cond : wrs b (vS b gn) k (b 53 5).toNat = 0 ↔ ∀ y : Nat, y < (b 53 5).toNat → abv (b 60) k 60 y = true → (b 57 y = 2 ∨ b 57 y = 3) → sd b (xS b gn) (b 66 y) * b 64 y = sd b (xS b gn) (b 67 y) * (b 65 y - b 64 y) := by
    rw [wrs_0]
    exact ⟨fun h y hy ha rod => (lev_iff gn (hl y hy ha rod)).mp (h y hy ha rod), fun h y hy ha rod => (lev_iff gn (hl y hy ha rod)).mpr (h y hy ha rod)⟩
  rw [cond]
  have zero : (∀ y : Nat, (y : Int) < b 53 5 → gn y = false) → ∀ y : Nat, sd b (xS b gn) (b 66 y) * b 64 y = sd b (xS b gn) (b 67 y) * (b 65 y - b 64 y) := fun hz y => by
    have e : ∀ s, sd b (xS b gn) s = 0 := fun s => by
      unfold sd ld
      split
      · refine (sumN_cg _ fun z hz2 => ?_).trans (sumN_zero _)
        unfold xS
        rw [hz z (by omega)]
        split <;> rfl
      · rfl
    rw [e, e, Int.zero_mul, Int.zero_mul]
  have idx : ∀ y, y ∈ W → ∃ i, W[i]? = some y ∧ i < W.length := fun y hy => by
    obtain ⟨i, e⟩ := List.mem_iff_getElem?.mp hy
    exact ⟨i, e, (List.getElem?_eq_some_iff.mp e).1⟩
  by_cases c0 : S = 0
  · refine ⟨fun _ => Or.inl c0, fun _ y _ _ _ => zero (fun z hz => ?_) y⟩
    by_cases m : z ∈ W
    · obtain ⟨i, e, -⟩ := idx z m
      cases hb : gn z with
      | false => rfl
      | true =>
        have := (hG.1 i z e).mp hb
        rw [c0, Nat.zero_testBit] at this
        exact absurd this (by decide)
    · exact hG.2 z hz m
  · by_cases c1 : S = 2 ^ W.length - 1
    · -- all of them
      have all : ∀ y, y ∈ W → gn y = true := fun y hy => by
        obtain ⟨i, e, il⟩ := idx y hy
        refine (hG.1 i y e).mpr ?_
        rw [c1, Nat.testBit_two_pow_sub_one, decide_eq_true (by omega)]
      have esd : ∀ (y : Nat) (s : Int), (y : Int) < b 53 5 → abv (b 60) k 60 y = true → s < b 53 5 → (0 ≤ s → b 60 s.toNat = (y : Int)) → sd b (xS b gn) s = sd b (v9 b) s := fun y s hy ha hs hs2 => by
        unfold sd
        split
        · rename_i c
          unfold ld
          refine sumN_cg _ fun z hz => ?_
          by_cases az : abv (b 60) s.toNat 60 z = true
          · rw [if_pos az, if_pos az]
            have as : abv (b 60) k 60 s.toNat = true := by
              have e := hs2 c
              rw [abv_eq hD hN.2 (by omega), e]
              split
              · rfl
              · rw [if_neg (by omega)]; exact ha
            have ak := abv_tr hD hN.2 as _ z rfl (by omega) az
            unfold xS v9
            by_cases w : b 57 z = 1
            · rw [if_pos w, all z ((hW z).mpr ⟨hz, ak, w⟩)]; rfl
            · have : z ∉ W := fun q => w ((hW z).mp q).2.2
              rw [if_neg w, hG.2 z (by omega) this]; rfl
          · rw [if_neg az, if_neg az]
        · rfl
      have hp : ∀ y : Nat, (y : Int) < b 53 5 → PI b y := fun y hy => (hI.2.2.1 y hy).1
      constructor
      · intro h
        refine Or.inr ⟨c1, fun y hy ha rod => ?_⟩
        have q := hp y (by omega)
        rw [← esd y _ (by omega) ha q.2.2.2.1.2.1 (fun z => (q.2.2.2.1.2.2 z).1), ← esd y _ (by omega) ha q.2.2.2.2.2.1 (fun z => (q.2.2.2.2.2.2 z).1)]
        exact h y hy ha rod
      · intro h y hy ha rod
        have hb : bareP b k := h.elim (fun z => absurd z c0) (fun z => z.2)
        have q := hp y (by omega)
        rw [esd y _ (by omega) ha q.2.2.2.1.2.1 (fun z => (q.2.2.2.1.2.2 z).1), esd y _ (by omega) ha q.2.2.2.2.2.1 (fun z => (q.2.2.2.2.2.2 z).1)]
        exact hb y hy ha rod
    · -- neither none nor all
      refine ⟨fun h => ?_, fun h => h.elim (fun z => absurd z c0) (fun z => absurd z.1 c1)⟩
      exfalso
      obtain ⟨⟨j1, j1l, j1b⟩, ⟨j2, j2l, j2b⟩⟩ := bits_mid (n := W.length) (S := S) (by omega) (by omega)
      have g1 : W[W.length - 1 - j1]? = some (W[W.length - 1 - j1]'(by omega)) := List.getElem?_eq_some_iff.mpr ⟨by omega, rfl⟩
      have g2 : W[W.length - 1 - j2]? = some (W[W.length - 1 - j2]'(by omega)) := List.getElem?_eq_some_iff.mpr ⟨by omega, rfl⟩
      generalize W[W.length - 1 - j1]'(by omega) = w1 at g1
      generalize W[W.length - 1 - j2]'(by omega) = w2 at g2
      have m1 := List.mem_of_getElem? g1
      have m2 := List.mem_of_getElem? g2
      have n1 : gn w1 = true := (hG.1 _ w1 g1).mpr (by rw [show W.length - 1 - (W.length - 1 - j1) = j1 by omega]; exact j1b)
      have n2 : gn w2 = false := by
        cases hb : gn w2 with
        | false => rfl
        | true =>
          have := (hG.1 _ w2 g2).mp hb
          rw [show W.length - 1 - (W.length - 1 - j2) = j2 by omega, j2b] at this
          exact absurd this (by decide)
      have W1 := (hW w1).mp m1
      have W2 := (hW w2).mp m2
      have own1 : 1 ≤ b 63 w1 := by
        rcases (hI.2.2.1 w1 (wN w1 m1)).2 with z | z | z
        · exact z.2.1.1
        · have := W1.2.2; omega
        · have := W1.2.2; omega
      have x1 : xS b gn w1 = b 63 w1 := by unfold xS; rw [n1]; rfl
      have x2 : xS b gn w2 = 0 := by unfold xS; rw [n2]; rfl
      have pos : 0 < ld b (xS b gn) k := by
        have nn := ldx_nn hI hx k
        by_cases z : ld b (xS b gn) k = 0
        · have := ld_zero hI hx z (wN w1 m1) W1.2.1
          omega
        · omega
      have p2 := all_gone hI hk hx hr (fun y hy ha rod => h y (by omega) ha rod) pos hD _ w2 rfl (wN w2 m2) W2.2.1
      rw [ld_leaf hI (wN w2 m2) W2.2.2, x2] at p2
      omega
end Fewest3
