/-! THE SETS THAT THE CLASS LISTS -/
section Sets
variable (N : Nat) (v w : Nat → Int)
/-- the sets in order below c whose sum the places before p bear -/
noncomputable def Ls (p : Nat) : Nat → List Nat
  | 0 => []
  | c + 1 => @ite _ (ino N v c ∧ sm N v c = sumN w p) (Classical.propDecidable _) (Ls p c ++ [c]) (Ls p c)
variable {N v w}
theorem Ls_t {p c : Nat} (h : ino N v c ∧ sm N v c = sumN w p) : Ls N v w p (c + 1) = Ls N v w p c ++ [c] := if_pos h
theorem Ls_f {p c : Nat} (h : ¬ (ino N v c ∧ sm N v c = sumN w p)) : Ls N v w p (c + 1) = Ls N v w p c := if_neg h
theorem Ls_in {p T : Nat} : ∀ c, T ∈ Ls N v w p c ↔ T < c ∧ ino N v T ∧ sm N v T = sumN w p
  | 0 => ⟨fun h => absurd h List.not_mem_nil, fun h => by omega⟩
  | c + 1 => by
    rcases Classical.em (ino N v c ∧ sm N v c = sumN w p) with q | q
    · rw [Ls_t q, List.mem_append, Ls_in c, List.mem_singleton]
      constructor
      · rintro (z | z)
        · exact ⟨by omega, z.2⟩
        · rw [z]; exact ⟨by omega, q⟩
      · rintro ⟨z1, z2⟩
        by_cases e : T = c
        · exact Or.inr e
        · exact Or.inl ⟨by omega, z2⟩
    · rw [Ls_f q, Ls_in c]
      constructor
      · rintro ⟨z1, z2⟩; exact ⟨by omega, z2⟩
      · rintro ⟨z1, z2⟩
        refine ⟨?_, z2⟩
        by_cases e : T = c
        · rw [e] at z2; exact absurd z2 q
        · omega
theorem Ls_nd {p : Nat} : ∀ c, (Ls N v w p c).Nodup
  | 0 => List.nodup_nil
  | c + 1 => by
    rcases Classical.em (ino N v c ∧ sm N v c = sumN w p) with q | q
    · rw [Ls_t q, List.nodup_append]
      refine ⟨Ls_nd c, by simp, fun x hx y hy => ?_⟩
      have := (Ls_in c).mp hx
      rw [List.mem_singleton.mp hy]
      omega
    · rw [Ls_f q]; exact Ls_nd c
theorem sm_zero {T : Nat} (hT : T < 2 ^ N) (hv : ∀ i, i < N → 1 ≤ v i) (h : sm N v T = 0) : T = 0 := ns_eq hT (p2_pos N) fun i hi => by
  rw [Nat.zero_testBit]
  cases c : T.testBit i
  · rfl
  · have := sumN_pos (f := fun i => if T.testBit i = true then v i else 0) (n := N) (k := i) (fun y hy => by
      have := hv y hy
      show 0 ≤ if T.testBit y = true then v y else 0
      split <;> omega) hi (by show 0 < if T.testBit i = true then v i else 0; rw [if_pos c]; have := hv i hi; omega)
    have h' : sumN (fun i => if T.testBit i = true then v i else 0) N = 0 := h
    omega
theorem sb_same {S T : Nat} (hS : S < 2 ^ N) (hT : T < 2 ^ N) (hv : ∀ i, i < N → 1 ≤ v i) (h : sb S T) (e : sm N v S = sm N v T) : S = T := by
  have h1 := sm_x (N := N) (v := v) h
  have h2 := sm_zero (xr_lt hS hT) hv (by omega : sm N v (S ^^^ T) = 0)
  have h3 := xr_x S T
  rw [h2, Nat.xor_zero] at h3
  exact h3
theorem Ls_len {p c : Nat} (hN : N ≤ 10) (hc : c ≤ 2 ^ N) (hv : ∀ i, i < N → 1 ≤ v i) : (Ls N v w p c).length ≤ 252 := by
  have hp := p2_le hN
  refine sperner (Ls_nd c) (fun s hs => by have := ((Ls_in c).mp hs).1; omega) fun s hs t ht h => ?_
  obtain ⟨s1, s2, s3⟩ := (Ls_in c).mp hs
  obtain ⟨t1, t2, t3⟩ := (Ls_in c).mp ht
  rcases h with h | h
  · exact sb_same (by omega) (by omega) hv (sb_and.mp h) (by omega)
  · rw [Nat.and_comm] at h
    exact (sb_same (by omega) (by omega) hv (sb_and.mp h) (by omega)).symm
theorem tb_add {i r j : Nat} (hr : r < 2 ^ i) : (2 ^ i + r).testBit j = if j = i then true else r.testBit j := by
  by_cases c : j = i
  · rw [if_pos c, c, Nat.testBit_two_pow_add_eq, Nat.testBit_lt_two_pow hr]; rfl
  · rw [if_neg c]
    rcases Nat.lt_or_ge j i with q | q
    · exact Nat.testBit_two_pow_add_gt q r
    · have h1 : 2 ^ i + r < 2 ^ (i + 1) := by rw [Nat.pow_succ]; omega
      rw [Nat.testBit_lt_two_pow (Nat.lt_of_lt_of_le h1 (Nat.pow_le_pow_right (by omega) (by omega))), Nat.testBit_lt_two_pow (Nat.lt_of_lt_of_le hr (Nat.pow_le_pow_right (by omega) q))]
theorem ino_add {i r : Nat} (hi : i < N) (hr : r < 2 ^ i) : ino N v (2 ^ i + r) ↔ ino N v r ∧ ∀ j, j < i → v j = v i → r.testBit j = true := by
  constructor
  · intro h
    refine ⟨fun a b hab hb hv hbit => ?_, fun j hj hv => ?_⟩
    · have hbi := tb_lt hbit hr
      have := h a b hab hb hv (by rw [tb_add hr, if_neg (by omega)]; exact hbit)
      rw [tb_add hr, if_neg (by omega)] at this
      exact this
    · have := h j i hj hi hv (by rw [tb_add hr, if_pos rfl])
      rw [tb_add hr, if_neg (by omega)] at this
      exact this
  · rintro ⟨h1, h2⟩ a b hab hb hv hbit
    rw [tb_add hr] at hbit ⊢
    by_cases c : b = i
    · rw [if_neg (by omega)]
      rw [c] at hv hab
      exact h2 a hab hv
    · rw [if_neg c] at hbit
      have hbi := tb_lt hbit hr
      rw [if_neg (by omega)]
      exact h1 a b hab hb hv hbit
theorem sm_add {i r : Nat} (hi : i < N) (hr : r < 2 ^ i) : sm N v (2 ^ i + r) = sm N v r + v i := by
  have h := sumN_upd (f := fun j => if (2 ^ i + r).testBit j = true then v j else 0) (h := fun j => if r.testBit j = true then v j else 0) hi (fun y _ hy => by rw [tb_add hr, if_neg hy])
  have e1 : (if (2 ^ i + r).testBit i = true then v i else 0) = v i := by rw [tb_add hr, if_pos rfl, if_pos rfl]
  have e2 : (if r.testBit i = true then v i else 0) = 0 := by rw [Nat.testBit_lt_two_pow hr, if_neg (by decide)]
  rw [e1, e2] at h
  show sumN _ N = sumN _ N + v i
  rw [h]; omega
theorem dg_add {i r : Nat} (hi : i < N) (hr : r < 2 ^ i) : dg N (2 ^ i + r) = dg N r + 8 ^ (N - 1 - i) := by
  have h := sumN_upd (f := fun j => if (2 ^ i + r).testBit j = true then (8 : Int) ^ (N - 1 - j) else 0) (h := fun j => if r.testBit j = true then 8 ^ (N - 1 - j) else 0) hi (fun y _ hy => by rw [tb_add hr, if_neg hy])
  have e1 : (if (2 ^ i + r).testBit i = true then (8 : Int) ^ (N - 1 - i) else 0) = 8 ^ (N - 1 - i) := by rw [tb_add hr, if_pos rfl, if_pos rfl]
  have e2 : (if r.testBit i = true then (8 : Int) ^ (N - 1 - i) else 0) = 0 := by rw [Nat.testBit_lt_two_pow hr, if_neg (by decide)]
  rw [e1, e2] at h
  show sumN _ N = sumN _ N + 8 ^ (N - 1 - i)
  rw [h]; omega
theorem dg_0 : dg N 0 = 0 := by
  show sumN _ N = 0
  rw [sumN_cg N (h := fun _ => 0) (fun i _ => by show (if (0 : Nat).testBit i = true then (8 : Int) ^ (N - 1 - i) else 0) = 0; rw [Nat.zero_testBit, if_neg (by decide)]), sumN_zero]
theorem dg_hr {T : Nat} : dg N T = (hr (msk T fun _ => 1) N : Int) := by
  rw [← hr_sum N]
  refine sumN_cg N fun i _ => ?_
  unfold msk
  split
  · show (8 : Int) ^ (N - 1 - i) = ((1 : Nat) : Int) * _
    omega
  · show (0 : Int) = ((0 : Nat) : Int) * _
    omega
end Sets
