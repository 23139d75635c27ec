/-! THE CLASS'S CHAINS OF SETS -/
section Chains
variable {d n : Nat} {dy : Nat → Shp} {g : Hp} {P : Pst} {N m : Nat} {v w : Nat → Int}
theorem roI_hr {T : Nat} {f : Nat → Nat} : roI N T f = (hr (msk T f) N : Int) := by
  rw [← hr_sum N]
  refine sumN_cg N fun i _ => ?_
  unfold msk
  split
  · rfl
  · show (0 : Int) = ((0 : Nat) : Int) * _
    omega
theorem roI_b {p T : Nat} {f : Nat → Nat} (hN : N ≤ 10) (hp : p ≤ 8) (h : Gg N v w p T f) : 0 ≤ roI N T f ∧ roI N T f < 1073741824 := by
  rw [roI_hr]
  have h1 := hr_b (f := msk T f) N (fun j hj => by
    unfold msk
    split
    · next q => have := (h.1.1 j hj q).2; omega
    · decide)
  have h2 : 8 ^ N ≤ 8 ^ 10 := Nat.pow_le_pow_right (by omega) hN
  have h3 : (8 : Nat) ^ 10 = 1073741824 := by decide
  omega
theorem bf_lt (hw : ∀ e, e < m → 1 ≤ w e) {p q : Nat} (hpq : p < q) (hq : q ≤ m) : sumN w p < sumN w q := by
  induction q with
  | zero => omega
  | succ q ih =>
    have h1 := hw q (by omega)
    show sumN w p < sumN w q + w q
    by_cases c : p = q
    · rw [c]; omega
    · have := ih (by omega) (by omega)
      omega
theorem bf_inj (hw : ∀ e, e < m → 1 ≤ w e) {p q T : Nat} (hp : p ≤ m) (hq : q ≤ m) {c c' : Nat} (h1 : T ∈ Ls N v w p c) (h2 : T ∈ Ls N v w q c') : p = q := by
  have e1 := ((Ls_in c).mp h1).2.2
  have e2 := ((Ls_in c').mp h2).2.2
  rcases Nat.lt_trichotomy p q with z | z | z
  · have := bf_lt hw z hq; omega
  · exact z
  · have := bf_lt hw z hp; omega
/-- what the sets of l bring to U -/
noncomputable def acS (N : Nat) (v w : Nat → Int) (p : Nat) (l : List Nat) (U : Nat) : Int := sumL (fun T => iv (sb T U) (Cc N v w p T)) l
theorem acS_nn {p U : Nat} : ∀ l, 0 ≤ acS N v w p l U
  | [] => Int.le_refl 0
  | T :: l => by
    have h1 := acS_nn (p := p) (U := U) l
    have h2 : 0 ≤ iv (sb T U) (Cc N v w p T) := iv_nn (Cc_nn p T)
    show 0 ≤ iv (sb T U) (Cc N v w p T) + acS N v w p l U
    omega
theorem acS_app {p U : Nat} (l k : List Nat) : acS N v w p (l ++ k) U = acS N v w p l U + acS N v w p k U := sumL_app _ l k
theorem acS_one {p U T : Nat} : acS N v w p [T] U = iv (sb T U) (Cc N v w p T) := by
  show iv (sb T U) (Cc N v w p T) + 0 = _
  omega
theorem acS_mem {p U T : Nat} : ∀ l, T ∈ l → sb T U → 0 < Cc N v w p T → 0 < acS N v w p l U
  | [], h, _, _ => absurd h List.not_mem_nil
  | S :: l, h, hs, hp => by
    have h1 := acS_nn (N := N) (v := v) (w := w) (p := p) (U := U) l
    have h2 : 0 ≤ iv (sb S U) (Cc N v w p S) := iv_nn (Cc_nn p S)
    show 0 < iv (sb S U) (Cc N v w p S) + acS N v w p l U
    rcases List.mem_cons.mp h with e | e
    · rw [← e, iv_t hs]; omega
    · have := acS_mem l e hs hp; omega
theorem acS_full {p U : Nat} (hU : U ∈ Ls N v w (p + 1) (2 ^ N)) : acS N v w p (Ls N v w p (2 ^ N)) U = Cc N v w (p + 1) U := by
  obtain ⟨h1, h2, h3⟩ := (Ls_in _).mp hU
  unfold acS
  rw [sumL_in _ (2 ^ N) _ (Ls_nd _) (fun y hy => ((Ls_in _).mp hy).1)]
  show _ = iv (ino N v U ∧ sm N v U = sumN w (p + 1)) (sumN (fun f => iv (sb f U) (Cc N v w p f)) (2 ^ N))
  rw [iv_t ⟨h2, h3⟩]
  refine sumN_cg _ fun T hT => ?_
  by_cases c : T ∈ Ls N v w p (2 ^ N)
  · rw [if_pos c]
  · rw [if_neg c]
    have : Cc N v w p T = 0 := by
      rcases Int.lt_or_eq_of_le (Cc_nn (N := N) (v := v) (w := w) p T) with z | z
      · obtain ⟨z1, z2⟩ := Cc_at z
        exact absurd ((Ls_in _).mpr ⟨hT, z1, z2⟩) c
      · exact z.symm
    rw [this]
    rcases Classical.em (sb T U) with z | z
    · exact (iv_t z).symm
    · exact (iv_f z).symm
/-- the row to U by way of T -/
def rwU (N p : Nat) (x : Nat → Int) (T U : Nat) : Int := x T + (p : Int) * (dg N U - dg N T)
/-- y is the least row to U by way of one of l -/
def FpU (N : Nat) (v w : Nat → Int) (p : Nat) (x : Nat → Int) (l : List Nat) (U : Nat) (y : Int) : Prop :=
  0 < acS N v w p l U → (∃ T, T ∈ l ∧ sb T U ∧ 0 < Cc N v w p T ∧ y = rwU N p x T U) ∧ ∀ T, T ∈ l → sb T U → 0 < Cc N v w p T → y ≤ rwU N p x T U
theorem FpU_skip {p U T : Nat} {x : Nat → Int} {l : List Nat} {y : Int} (h : FpU N v w p x l U y) (hs : ¬ (sb T U ∧ 0 < Cc N v w p T)) : acS N v w p (l ++ [T]) U = acS N v w p l U ∧ FpU N v w p x (l ++ [T]) U y := by
  have e : acS N v w p (l ++ [T]) U = acS N v w p l U := by
    rw [acS_app, acS_one]
    rcases Classical.em (sb T U) with z | z
    · rw [iv_t z]
      have := Cc_nn (N := N) (v := v) (w := w) p T
      have : ¬ 0 < Cc N v w p T := fun q => hs ⟨z, q⟩
      omega
    · rw [iv_f z]; omega
  refine ⟨e, fun hp => ?_⟩
  rw [e] at hp
  obtain ⟨⟨T', a1, a2⟩, a3⟩ := h hp
  refine ⟨⟨T', List.mem_append_left _ a1, a2⟩, fun S hS h1 h2 => ?_⟩
  rcases List.mem_append.mp hS with z | z
  · exact a3 S z h1 h2
  · rw [List.mem_singleton.mp z] at h1 h2; exact absurd ⟨h1, h2⟩ hs
theorem FpU_add {p U T : Nat} {x : Nat → Int} {l : List Nat} {y y' : Int} (h : FpU N v w p x l U y) (hs : sb T U) (hc : 0 < Cc N v w p T) (h1 : acS N v w p l U = 0 → y' = rwU N p x T U) (h2 : acS N v w p l U ≠ 0 → (y ≤ rwU N p x T U → y' = y) ∧ (rwU N p x T U < y → y' = rwU N p x T U)) : FpU N v w p x (l ++ [T]) U y' := by
  intro _
  by_cases c : acS N v w p l U = 0
  · have e := h1 c
    refine ⟨⟨T, by simp, hs, hc, e⟩, fun S hS a1 a2 => ?_⟩
    rcases List.mem_append.mp hS with z | z
    · have := acS_mem l z a1 a2; omega
    · rw [List.mem_singleton.mp z]; omega
  · have hp : 0 < acS N v w p l U := by have := acS_nn (N := N) (v := v) (w := w) (p := p) (U := U) l; omega
    obtain ⟨⟨T', a1, a2, a3, a4⟩, a5⟩ := h hp
    obtain ⟨b1, b2⟩ := h2 c
    by_cases q : y ≤ rwU N p x T U
    · have e := b1 q
      refine ⟨⟨T', List.mem_append_left _ a1, a2, a3, by omega⟩, fun S hS c1 c2 => ?_⟩
      rcases List.mem_append.mp hS with z | z
      · have := a5 S z c1 c2; omega
      · rw [List.mem_singleton.mp z]; omega
    · have e := b2 (by omega)
      refine ⟨⟨T, by simp, hs, hc, e⟩, fun S hS c1 c2 => ?_⟩
      rcases List.mem_append.mp hS with z | z
      · have := a5 S z c1 c2; omega
      · rw [List.mem_singleton.mp z]; omega
theorem Fl_next {p U : Nat} {x : Nat → Int} {y : Int} (hU : U ∈ Ls N v w (p + 1) (2 ^ N)) (hx : ∀ T, T ∈ Ls N v w p (2 ^ N) → 0 < Cc N v w p T → Fl N v w p T (x T)) (hc : 0 < Cc N v w (p + 1) U) (h : FpU N v w p x (Ls N v w p (2 ^ N)) U y) : Fl N v w (p + 1) U y := by
  obtain ⟨h1, h2, h3⟩ := (Ls_in _).mp hU
  obtain ⟨⟨T, a1, a2, a3, a4⟩, a5⟩ := h (by rw [acS_full hU]; exact hc)
  constructor
  · obtain ⟨⟨f0, hf0, e0⟩, _⟩ := hx T a1 a3
    obtain ⟨f, hf, e⟩ := Gg_back ((Ls_in _).mp a1).1 a2 h2 h3 hf0
    refine ⟨f, hf, ?_⟩
    rw [e, a4, ← e0]; rfl
  · intro f hf
    obtain ⟨S, hS, hs, hg, e⟩ := Gg_step h1 hf
    have hin : S ∈ Ls N v w p (2 ^ N) := (Ls_in _).mpr ⟨hS, hg.2.1, As_sum hg.1⟩
    have hpos : 0 < Cc N v w p S := (Cc_iff p S hS).mpr ⟨f, hg⟩
    have b1 := a5 S hin hs hpos
    have b2 := (hx S hin hpos).2 f hg
    unfold rwU at b1
    omega
theorem rw_b {p T U : Nat} {x : Nat → Int} (hN : N ≤ 10) (hp : p + 1 ≤ 8) (hU : U ∈ Ls N v w (p + 1) (2 ^ N)) (hT : T ∈ Ls N v w p (2 ^ N)) (hs : sb T U) (hx : Fl N v w p T (x T)) : 0 ≤ rwU N p x T U ∧ rwU N p x T U < 1073741824 := by
  obtain ⟨h1, h2, h3⟩ := (Ls_in _).mp hU
  obtain ⟨⟨f0, hf0, e0⟩, _⟩ := hx
  obtain ⟨f, hf, e⟩ := Gg_back ((Ls_in _).mp hT).1 hs h2 h3 hf0
  have := roI_b hN hp hf
  unfold rwU
  rw [e0, ← e]; exact this
end Chains
