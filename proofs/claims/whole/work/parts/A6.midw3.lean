/-! the walk of the reference's middle, its end -/
set_option maxHeartbeats 8000000 in
set_option maxRecDepth 4000 in
theorem bX12_middle_214 {d n : Nat} {dy : Nat → Shp} {g : Hp} {P : Pst} {x1 : Int} {x2 : Int} {x3 : Int} {x5 : Int} {x7 : Int} {xs0 : Int} (hn : 100 ≤ n) (h : (i6 x7) ∧ ((0 ≤ x7) → (i3 x2) ∧ (i3 (x2.tmod 2)) ∧ (((x2.tmod 2) ≠ 0) → (i6 (xs0 * 1)) ∧ (xs0 * 1 ≠ 0) ∧ P (some (L_ (x7.tdiv (xs0 * 1)))) n (W0 dy) g) ∧ (((x2.tmod 2) = 0) → (i6 x5) ∧ (i6 (xs0 * 1)) ∧ (xs0 * 1 ≠ 0) ∧ P (some (L_ (x5.tdiv (xs0 * 1)))) n (W0 dy) g)) ∧ ((x7 < 0) → (i3 x2) ∧ (i3 (x2.tmod 2)) ∧ (((x2.tmod 2) ≠ 0) → (i6 (xs0 * ((-1)))) ∧ (xs0 * ((-1)) ≠ 0) ∧ P (some (L_ (x7.tdiv (xs0 * ((-1)))))) n (W0 dy) g) ∧ (((x2.tmod 2) = 0) → (i6 x5) ∧ (i6 (xs0 * ((-1)))) ∧ (xs0 * ((-1)) ≠ 0) ∧ P (some (L_ (x5.tdiv (xs0 * ((-1)))))) n (W0 dy) g))) : V miX12_middle (d + 1) 214 [(0, .ref 53), (1, I_ x1), (2, I_ x2), (3, L_ x3), (5, L_ x5), (7, L_ x7)] [L_ xs0] n (W0 dy) g 0 0 P := by
  refine v_lload 132 5 rfl rfl ?_
  refine v_lconst (v := 0) 133 rfl (by decide) ?_
  have c1 := h.1
  have h := h.2
  refine v_lif_ge 134 rfl rfl (tgt := 227) rfl c1 (by decide) (fun q2 => ?_) (fun q2 => ?_)
  · have h := h.1 q2
    refine v_lconst (v := 1) 138 rfl (by decide) ?_
    refine v_lmul 139 rfl ?_
    refine v_lstore 140 [1, 2, 3, 4, 5, 6, 0] rfl (by decide) rfl ?_
    refine v_iload_n 141 2 rfl rfl rfl ?_
    refine v_iconst 142 rfl ?_
    have c3 := h.1
    have h := h.2
    refine v_irem 143 rfl c3 (by decide) (by decide) ?_
    have c4 := h.1
    have h := h.2
    refine v_if_ne 144 rfl (tgt := 245) rfl c4 (fun q5 => ?_) (fun q5 => ?_)
    · have h := h.1 q5
      refine v_lload 149 5 rfl rfl ?_
      refine v_lload 150 6 rfl rfl ?_
      have c6 := h.1
      have h := h.2
      have c7 := h.1
      have h := h.2
      refine v_ldiv 151 rfl c1 c6 c7 ?_
      exact v_ret (v := some (L_ (x7.tdiv (xs0 * 1)))) 152 rfl (Nat.zero_le _) (Nat.zero_le _) trivial rfl h
    · have h := h.2 q5
      refine v_lload 145 4 rfl rfl ?_
      refine v_lload 146 6 rfl rfl ?_
      have c8 := h.1
      have h := h.2
      have c9 := h.1
      have h := h.2
      have c10 := h.1
      have h := h.2
      refine v_ldiv 147 rfl c8 c9 c10 ?_
      refine v_goto 148 rfl (tgt := 250) rfl ?_
      exact v_ret (v := some (L_ (x5.tdiv (xs0 * 1)))) 152 rfl (Nat.zero_le _) (Nat.zero_le _) trivial rfl h
  · have h := h.2 q2
    refine v_ldc2 (v := (-1)) 136 rfl (tbG_in (List.mem_append_right _ (List.mem_of_getElem? (i := 1334) (by decide +kernel))) rfl) ?_
    refine v_goto 137 rfl (tgt := 228) rfl ?_
    refine v_lmul 139 rfl ?_
    refine v_lstore 140 [1, 2, 3, 4, 5, 6, 0] rfl (by decide) rfl ?_
    refine v_iload_n 141 2 rfl rfl rfl ?_
    refine v_iconst 142 rfl ?_
    have c11 := h.1
    have h := h.2
    refine v_irem 143 rfl c11 (by decide) (by decide) ?_
    have c12 := h.1
    have h := h.2
    refine v_if_ne 144 rfl (tgt := 245) rfl c12 (fun q13 => ?_) (fun q13 => ?_)
    · have h := h.1 q13
      refine v_lload 149 5 rfl rfl ?_
      refine v_lload 150 6 rfl rfl ?_
      have c14 := h.1
      have h := h.2
      have c15 := h.1
      have h := h.2
      refine v_ldiv 151 rfl c1 c14 c15 ?_
      exact v_ret (v := some (L_ (x7.tdiv (xs0 * ((-1)))))) 152 rfl (Nat.zero_le _) (Nat.zero_le _) trivial rfl h
    · have h := h.2 q13
      refine v_lload 145 4 rfl rfl ?_
      refine v_lload 146 6 rfl rfl ?_
      have c16 := h.1
      have h := h.2
      have c17 := h.1
      have h := h.2
      have c18 := h.1
      have h := h.2
      refine v_ldiv 147 rfl c16 c17 c18 ?_
      refine v_goto 148 rfl (tgt := 250) rfl ?_
      exact v_ret (v := some (L_ (x5.tdiv (xs0 * ((-1)))))) 152 rfl (Nat.zero_le _) (Nat.zero_le _) trivial rfl h
