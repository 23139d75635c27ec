set_option maxHeartbeats 8000000 in
set_option maxRecDepth 4000 in
theorem bX12_isFirstOf_0 {d n : Nat} {dy : Nat → Shp} {g : Hp} {P : Pst} {x1 : Int} {x2 : Int} (hn : 100 ≤ n) (h : V miX12_isFirstOf d 2 [(0, .ref 53), (1, I_ x1), (2, I_ x2), (3, I_ 0)] [] n (W0 dy) g 0 0 P) : V miX12_isFirstOf d 0 [(0, .ref 53), (1, I_ x1), (2, I_ x2)] [] n (W0 dy) g 0 0 P := by
  refine v_iconst 0 rfl ?_
  refine v_istore_n 1 [1, 2, 3, 0] rfl rfl (by decide) rfl ?_
  exact h
set_option maxHeartbeats 8000000 in
set_option maxRecDepth 4000 in
theorem bX12_isFirstOf_2 {d n : Nat} {dy : Nat → Shp} {g : Hp} {P : Pst} {x1 : Int} {x2 : Int} {x3 : Int} (hn : 100 ≤ n) (h : (i3 x3) ∧ (((g 53 42) ≤ x3) → P (some (I_ 1)) n (W0 dy) g) ∧ ((x3 < (g 53 42)) → (((and3 (shr3 x1 x3) 1) ≠ 0) → V miX12_isFirstOf d 24 [(0, .ref 53), (1, I_ x1), (2, I_ x2), (3, I_ x3), (4, I_ 0)] [] n (W0 dy) g 0 0 P) ∧ (((and3 (shr3 x1 x3) 1) = 0) → V miX12_isFirstOf d 74 [(0, .ref 53), (1, I_ x1), (2, I_ x2), (3, I_ x3)] [] n (W0 dy) g 0 0 P))) : V miX12_isFirstOf d 2 [(0, .ref 53), (1, I_ x1), (2, I_ x2), (3, I_ x3)] [] n (W0 dy) g 0 0 P := by
  refine v_iload_n 2 3 rfl rfl rfl ?_
  refine v_aload_n 3 0 rfl rfl rfl ?_
  refine v_gI 4 rfl fl12_351_11.r (al 53 rfl hn) (wk53 dy) (by decide) rfl (wc53_42 dy) (x := g 53 42) rfl ?_
  refine v_rng fun w1 => ?_
  have r2 : i3 (g 53 42) := rI w1 (q := 42) (al 53 rfl hn) (wk53 dy) rfl rfl
  have c3 := h.1
  have h := h.2
  refine v_icmp_ge 5 rfl (tgt := 80) rfl c3 r2 (fun q5 => ?_) (fun q5 => ?_)
  · have h := h.1 q5
    refine v_iconst 47 rfl ?_
    exact v_ret (v := some (I_ 1)) 48 rfl (Nat.zero_le _) (Nat.zero_le _) (Or.inr rfl) rfl h
  · have h := h.2 q5
    refine v_iload_n 6 1 rfl rfl rfl ?_
    refine v_iload_n 7 3 rfl rfl rfl ?_
    refine v_ishr 8 rfl ?_
    refine v_iconst 9 rfl ?_
    refine v_iand 10 rfl ?_
    refine v_if_ne 11 rfl (tgt := 21) rfl (and3_r _ _) (fun q4 => ?_) (fun q4 => ?_)
    · have h := h.1 q4
      refine v_iconst 13 rfl ?_
      refine v_istore 14 [1, 2, 3, 4, 0] rfl (by decide) rfl ?_
      exact h
    · have h := h.2 q4
      refine v_goto 12 rfl (tgt := 74) rfl ?_
      exact h
set_option maxHeartbeats 8000000 in
set_option maxRecDepth 4000 in
theorem bX12_isFirstOf_24 {d n : Nat} {dy : Nat → Shp} {g : Hp} {P : Pst} {x1 : Int} {x2 : Int} {x3 : Int} {x4 : Int} (hn : 100 ≤ n) (h : (i3 x4) ∧ (i3 x3) ∧ ((x3 ≤ x4) → V miX12_isFirstOf d 74 [(0, .ref 53), (1, I_ x1), (2, I_ x2), (3, I_ x3)] [] n (W0 dy) g 0 0 P) ∧ ((x4 < x3) → (0 ≤ x4 ∧ x4 < 10) ∧ (0 ≤ x3 ∧ x3 < 10) ∧ (((g 89 x4.toNat) ≠ (g 89 x3.toNat)) → V miX12_isFirstOf d 68 [(0, .ref 53), (1, I_ x1), (2, I_ x2), (3, I_ x3), (4, I_ x4)] [] n (W0 dy) g 0 0 P) ∧ (((g 89 x4.toNat) = (g 89 x3.toNat)) → (((and3 (shr3 x2 x4) 1) ≠ 1) → V miX12_isFirstOf d 68 [(0, .ref 53), (1, I_ x1), (2, I_ x2), (3, I_ x3), (4, I_ x4)] [] n (W0 dy) g 0 0 P) ∧ (((and3 (shr3 x2 x4) 1) = 1) → (((and3 (shr3 x1 x4) 1) ≠ 0) → V miX12_isFirstOf d 68 [(0, .ref 53), (1, I_ x1), (2, I_ x2), (3, I_ x3), (4, I_ x4)] [] n (W0 dy) g 0 0 P) ∧ (((and3 (shr3 x1 x4) 1) = 0) → P (some (I_ 0)) n (W0 dy) g))))) : V miX12_isFirstOf d 24 [(0, .ref 53), (1, I_ x1), (2, I_ x2), (3, I_ x3), (4, I_ x4)] [] n (W0 dy) g 0 0 P := by
  refine v_iload 15 4 rfl rfl ?_
  refine v_iload_n 16 3 rfl rfl rfl ?_
  have c1 := h.1
  have h := h.2
  have c2 := h.1
  have h := h.2
  refine v_icmp_ge 17 rfl (tgt := 74) rfl c1 c2 (fun q12 => ?_) (fun q12 => ?_)
  · have h := h.1 q12
    refine v_loc [0, 1, 2, 3] rfl ?_
    exact h
  · have h := h.2 q12
    refine v_aload_n 18 0 rfl rfl rfl ?_
    refine v_gK 19 rfl fl12_118_11.r (al 53 rfl hn) (wk53 dy) (by decide) rfl (r := 89) (wc53_46 dy) ?_
    refine v_iload 20 4 rfl rfl ?_
    have c3 := h.1
    have h := h.2
    refine v_la (N := 10) 21 rfl (al 89 rfl hn) (wk89 dy) (wn89 dy) (by decide) c3 (y := g 89 x4.toNat) rfl ?_
    refine v_rng fun w4 => ?_
    have r5 : i6 (g 89 x4.toNat) := rL w4 (q := x4.toNat) (al 89 rfl hn) (wk89 dy) rfl rfl
    refine v_aload_n 22 0 rfl rfl rfl ?_
    refine v_gK 23 rfl fl12_118_11.r (al 53 rfl hn) (wk53 dy) (by decide) rfl (r := 89) (wc53_46 dy) ?_
    refine v_iload_n 24 3 rfl rfl rfl ?_
    have c6 := h.1
    have h := h.2
    refine v_la (N := 10) 25 rfl (al 89 rfl hn) (wk89 dy) (wn89 dy) (by decide) c6 (y := g 89 x3.toNat) rfl ?_
    refine v_rng fun w7 => ?_
    have r8 : i6 (g 89 x3.toNat) := rL w7 (q := x3.toNat) (al 89 rfl hn) (wk89 dy) rfl rfl
    refine v_lif_ne 26 rfl rfl (tgt := 68) rfl r5 r8 (fun q11 => ?_) (fun q11 => ?_)
    · have h := h.1 q11
      exact h
    · have h := h.2 q11
      refine v_iload_n 28 2 rfl rfl rfl ?_
      refine v_iload 29 4 rfl rfl ?_
      refine v_ishr 30 rfl ?_
      refine v_iconst 31 rfl ?_
      refine v_iand 32 rfl ?_
      refine v_iconst 33 rfl ?_
      refine v_icmp_ne 34 rfl (tgt := 68) rfl (and3_r _ _) (by decide) (fun q10 => ?_) (fun q10 => ?_)
      · have h := h.1 q10
        exact h
      · have h := h.2 q10
        refine v_iload_n 35 1 rfl rfl rfl ?_
        refine v_iload 36 4 rfl rfl ?_
        refine v_ishr 37 rfl ?_
        refine v_iconst 38 rfl ?_
        refine v_iand 39 rfl ?_
        refine v_if_ne 40 rfl (tgt := 68) rfl (and3_r _ _) (fun q9 => ?_) (fun q9 => ?_)
        · have h := h.1 q9
          exact h
        · have h := h.2 q9
          refine v_iconst 41 rfl ?_
          exact v_ret (v := some (I_ 0)) 42 rfl (Nat.zero_le _) (Nat.zero_le _) (Or.inl rfl) rfl h
set_option maxHeartbeats 8000000 in
set_option maxRecDepth 4000 in
theorem bX12_isFirstOf_68 {d n : Nat} {dy : Nat → Shp} {g : Hp} {P : Pst} {x1 : Int} {x2 : Int} {x3 : Int} {x4 : Int} (hn : 100 ≤ n) (h : V miX12_isFirstOf d 24 [(0, .ref 53), (1, I_ x1), (2, I_ x2), (3, I_ x3), (4, I_ (x4 + 1))] [] n (W0 dy) g 0 0 P) : V miX12_isFirstOf d 68 [(0, .ref 53), (1, I_ x1), (2, I_ x2), (3, I_ x3), (4, I_ x4)] [] n (W0 dy) g 0 0 P := by
  refine v_iinc 43 4 [1, 2, 3, 4, 0] rfl rfl (by decide) rfl ?_
  refine v_goto 44 rfl (tgt := 24) rfl ?_
  exact h
set_option maxHeartbeats 8000000 in
set_option maxRecDepth 4000 in
theorem bX12_isFirstOf_74 {d n : Nat} {dy : Nat → Shp} {g : Hp} {P : Pst} {x1 : Int} {x2 : Int} {x3 : Int} (hn : 100 ≤ n) (h : V miX12_isFirstOf d 2 [(0, .ref 53), (1, I_ x1), (2, I_ x2), (3, I_ (x3 + 1))] [] n (W0 dy) g 0 0 P) : V miX12_isFirstOf d 74 [(0, .ref 53), (1, I_ x1), (2, I_ x2), (3, I_ x3)] [] n (W0 dy) g 0 0 P := by
  refine v_iinc 45 3 [1, 2, 3, 0] rfl rfl (by decide) rfl ?_
  refine v_goto 46 rfl (tgt := 2) rfl ?_
  exact h
theorem fl12_136_11 : FL RX12 136 11 53 true (.array .long) := ⟨RX12, TX12, 58, "MobileMakerModel", rfl, rfl, by decide, kf11, tbG_in (List.mem_append_right _ (List.mem_of_getElem? (i := 1180) (by decide +kernel))) rfl, Or.inl rfl, rfl, by decide +kernel, ⟨tyX12, tyX12_ok⟩, nmX12, fun _ => rfl⟩
theorem fl12_133_11 : FL RX12 133 11 52 true (.array .int) := ⟨RX12, TX12, 58, "MobileMakerModel", rfl, rfl, by decide, kf11, tbG_in (List.mem_append_right _ (List.mem_of_getElem? (i := 1179) (by decide +kernel))) rfl, Or.inl rfl, rfl, by decide +kernel, ⟨tyX12, tyX12_ok⟩, nmX12, fun _ => rfl⟩
theorem lv12_357_waysOf_11 : LkV miX12_waysOf miX12_isFirstOf 357 2 11 := ⟨⟨⟨tbG_in (List.mem_append_right _ (List.mem_of_getElem? (i := 1618) (by decide +kernel))) rfl, tbG_in (List.mem_append_right _ (List.mem_of_getElem? (i := 9) (by decide +kernel))) rfl, tbG_in (List.mem_append_right _ (List.mem_of_getElem? (i := 1615) (by decide +kernel))) rfl⟩, ⟨by decide +kernel, by decide +kernel, by decide +kernel⟩, by decide⟩, tbG_in (List.mem_append_right _ (List.mem_of_getElem? (i := 1617) (by decide +kernel))) rfl, RX12, TX12, 58, rfl, tbG_in (List.mem_append_left _ (List.mem_of_getElem? (i := 91) (by decide +kernel))) rfl⟩
set_option maxHeartbeats 8000000 in
set_option maxRecDepth 4000 in
theorem bX12_waysOf_0 {d n : Nat} {dy : Nat → Shp} {g : Hp} {P : Pst} {x1 : Int} (hn : 100 ≤ n) (h : V miX12_waysOf (d + 1) 2 [(0, .ref 53), (1, I_ x1), (2, I_ 0)] [] n (W0 dy) g 0 0 P) : V miX12_waysOf (d + 1) 0 [(0, .ref 53), (1, I_ x1)] [] n (W0 dy) g 0 0 P := by
  refine v_iconst 0 rfl ?_
  refine v_istore_n 1 [1, 2, 0] rfl rfl (by decide) rfl ?_
  exact h
set_option maxHeartbeats 8000000 in
set_option maxRecDepth 4000 in
theorem bX12_waysOf_2 {d n : Nat} {dy : Nat → Shp} {g : Hp} {P : Pst} {x1 : Int} {x2 : Int} (hn : 100 ≤ n) (h : (i3 x2) ∧ (((shl3 1 (g 53 42)) ≤ x2) → V miX12_waysOf (d + 1) 100 [(0, .ref 53), (1, I_ x1), (2, I_ ((g 53 41) - 1))] [] n (W0 dy) g 0 0 P) ∧ ((x2 < (shl3 1 (g 53 42))) → (0 ≤ x2 ∧ x2 < 1024) ∧ V miX12_waysOf (d + 1) 21 [(0, .ref 53), (1, I_ x1), (2, I_ x2), (3, I_ 0)] [] n (W0 dy) (up2 g 95 x2.toNat 0) 0 0 P)) : V miX12_waysOf (d + 1) 2 [(0, .ref 53), (1, I_ x1), (2, I_ x2)] [] n (W0 dy) g 0 0 P := by
  refine v_iload_n 2 2 rfl rfl rfl ?_
  refine v_iconst 3 rfl ?_
  refine v_aload_n 4 0 rfl rfl rfl ?_
  refine v_gI 5 rfl fl12_351_11.r (al 53 rfl hn) (wk53 dy) (by decide) rfl (wc53_42 dy) (x := g 53 42) rfl ?_
  refine v_rng fun w1 => ?_
  have r2 : i3 (g 53 42) := rI w1 (q := 42) (al 53 rfl hn) (wk53 dy) rfl rfl
  refine v_ishl 6 rfl ?_
  have c3 := h.1
  have h := h.2
  refine v_icmp_ge 7 rfl (tgt := 93) rfl c3 (shl3_r _ _) (fun q7 => ?_) (fun q7 => ?_)
  · have h := h.1 q7
    refine v_aload_n 57 0 rfl rfl rfl ?_
    refine v_gI 58 rfl fl12_340_11.r (al 53 rfl hn) (wk53 dy) (by decide) rfl (wc53_41 dy) (x := g 53 41) rfl ?_
    refine v_rng fun w4 => ?_
    have r5 : i3 (g 53 41) := rI w4 (q := 41) (al 53 rfl hn) (wk53 dy) rfl rfl
    refine v_iconst 59 rfl ?_
    refine v_isub 60 rfl ?_
    refine v_istore_n 61 [1, 2, 0] rfl rfl (by decide) rfl ?_
    exact h
  · have h := h.2 q7
    refine v_aload_n 8 0 rfl rfl rfl ?_
    refine v_gK 9 rfl fl12_136_11.r (al 53 rfl hn) (wk53 dy) (by decide) rfl (r := 95) (wc53_53 dy) ?_
    refine v_iload_n 10 2 rfl rfl rfl ?_
    refine v_lconst (v := 0) 11 rfl (by decide) ?_
    have c6 := h.1
    have h := h.2
    refine v_last (N := 1024) 12 rfl (al 95 rfl hn) (wk95 dy) (wn95 dy) (by decide) c6 (by decide) ?_
    refine v_iconst 13 rfl ?_
    refine v_istore_n 14 [1, 2, 3, 0] rfl rfl (by decide) rfl ?_
    exact h
set_option maxHeartbeats 8000000 in
set_option maxRecDepth 4000 in
theorem bX12_waysOf_21 {d n : Nat} {dy : Nat → Shp} {g : Hp} {P : Pst} {x1 : Int} {x2 : Int} {x3 : Int} (hn : 100 ≤ n) (h : (i3 x3) ∧ (((g 53 42) ≤ x3) → (i3 x2) ∧ ((x2 ≠ 0) → V miX12_waysOf (d + 1) 86 [(0, .ref 53), (1, I_ x1), (2, I_ x2), (3, I_ x3)] [I_ 0, I_ ((1024 * (g 53 41)) + x2), .ref 94] n (W0 dy) g 0 0 P) ∧ ((x2 = 0) → V miX12_waysOf (d + 1) 86 [(0, .ref 53), (1, I_ x1), (2, I_ x2), (3, I_ x3)] [I_ 1, I_ ((1024 * (g 53 41)) + x2), .ref 94] n (W0 dy) g 0 0 P)) ∧ ((x3 < (g 53 42)) → (0 ≤ x2 ∧ x2 < 1024) ∧ (((and3 (shr3 x2 x3) 1) ≠ 1) → V miX12_waysOf (d + 1) 55 [(0, .ref 53), (1, I_ x1), (2, I_ x2), (3, I_ x3)] [L_ 0, L_ (g 95 x2.toNat), I_ x2, .ref 95] n (W0 dy) g 0 0 P) ∧ (((and3 (shr3 x2 x3) 1) = 1) → (0 ≤ x3 ∧ x3 < 10) ∧ V miX12_waysOf (d + 1) 55 [(0, .ref 53), (1, I_ x1), (2, I_ x2), (3, I_ x3)] [L_ (g 89 x3.toNat), L_ (g 95 x2.toNat), I_ x2, .ref 95] n (W0 dy) g 0 0 P))) : V miX12_waysOf (d + 1) 21 [(0, .ref 53), (1, I_ x1), (2, I_ x2), (3, I_ x3)] [] n (W0 dy) g 0 0 P := by
  refine v_iload_n 15 3 rfl rfl rfl ?_
  refine v_aload_n 16 0 rfl rfl rfl ?_
  refine v_gI 17 rfl fl12_351_11.r (al 53 rfl hn) (wk53 dy) (by decide) rfl (wc53_42 dy) (x := g 53 42) rfl ?_
  refine v_rng fun w1 => ?_
  have r2 : i3 (g 53 42) := rI w1 (q := 42) (al 53 rfl hn) (wk53 dy) rfl rfl
  have c3 := h.1
  have h := h.2
  refine v_icmp_ge 18 rfl (tgt := 63) rfl c3 r2 (fun q15 => ?_) (fun q15 => ?_)
  · have h := h.1 q15
    refine v_aload_n 41 0 rfl rfl rfl ?_
    refine v_gK 42 rfl fl12_133_11.r (al 53 rfl hn) (wk53 dy) (by decide) rfl (r := 94) (wc53_52 dy) ?_
    refine v_sipush 43 rfl (by decide) ?_
    refine v_aload_n 44 0 rfl rfl rfl ?_
    refine v_gI 45 rfl fl12_340_11.r (al 53 rfl hn) (wk53 dy) (by decide) rfl (wc53_41 dy) (x := g 53 41) rfl ?_
    refine v_rng fun w4 => ?_
    have r5 : i3 (g 53 41) := rI w4 (q := 41) (al 53 rfl hn) (wk53 dy) rfl rfl
    refine v_imul 46 rfl ?_
    refine v_iload_n 47 2 rfl rfl rfl ?_
    refine v_iadd 48 rfl ?_
    refine v_iload_n 49 2 rfl rfl rfl ?_
    have c6 := h.1
    have h := h.2
    refine v_if_ne 50 rfl (tgt := 85) rfl c6 (fun q7 => ?_) (fun q7 => ?_)
    · have h := h.1 q7
      refine v_iconst 53 rfl ?_
      exact h
    · have h := h.2 q7
      refine v_iconst 51 rfl ?_
      refine v_goto 52 rfl (tgt := 86) rfl ?_
      exact h
  · have h := h.2 q15
    refine v_aload_n 19 0 rfl rfl rfl ?_
    refine v_gK 20 rfl fl12_136_11.r (al 53 rfl hn) (wk53 dy) (by decide) rfl (r := 95) (wc53_53 dy) ?_
    refine v_iload_n 21 2 rfl rfl rfl ?_
    refine v_dup2 22 rfl (by intro h; cases h) (by intro h; cases h) ?_
    have c8 := h.1
    have h := h.2
    refine v_la (N := 1024) 23 rfl (al 95 rfl hn) (wk95 dy) (wn95 dy) (by decide) c8 (y := g 95 x2.toNat) rfl ?_
    refine v_rng fun w9 => ?_
    have r10 : i6 (g 95 x2.toNat) := rL w9 (q := x2.toNat) (al 95 rfl hn) (wk95 dy) rfl rfl
    refine v_iload_n 24 2 rfl rfl rfl ?_
    refine v_iload_n 25 3 rfl rfl rfl ?_
    refine v_ishr 26 rfl ?_
    refine v_iconst 27 rfl ?_
    refine v_iand 28 rfl ?_
    refine v_iconst 29 rfl ?_
    refine v_icmp_ne 30 rfl (tgt := 54) rfl (and3_r _ _) (by decide) (fun q14 => ?_) (fun q14 => ?_)
    · have h := h.1 q14
      refine v_lconst (v := 0) 36 rfl (by decide) ?_
      exact h
    · have h := h.2 q14
      refine v_aload_n 31 0 rfl rfl rfl ?_
      refine v_gK 32 rfl fl12_118_11.r (al 53 rfl hn) (wk53 dy) (by decide) rfl (r := 89) (wc53_46 dy) ?_
      refine v_iload_n 33 3 rfl rfl rfl ?_
      have c11 := h.1
      have h := h.2
      refine v_la (N := 10) 34 rfl (al 89 rfl hn) (wk89 dy) (wn89 dy) (by decide) c11 (y := g 89 x3.toNat) rfl ?_
      refine v_rng fun w12 => ?_
      have r13 : i6 (g 89 x3.toNat) := rL w12 (q := x3.toNat) (al 89 rfl hn) (wk89 dy) rfl rfl
      refine v_goto 35 rfl (tgt := 55) rfl ?_
      exact h
set_option maxHeartbeats 8000000 in
set_option maxRecDepth 4000 in
theorem bX12_waysOf_55 {d n : Nat} {dy : Nat → Shp} {g : Hp} {P : Pst} {x1 : Int} {x2 : Int} {x3 : Int} {xs1 : Int} {xs2 : Int} {xs3 : Int} (hn : 100 ≤ n) (h : (0 ≤ xs1 ∧ xs1 < 1024) ∧ (i6 (xs2 + xs3)) ∧ V miX12_waysOf (d + 1) 21 [(0, .ref 53), (1, I_ x1), (2, I_ x2), (3, I_ (x3 + 1))] [] n (W0 dy) (up2 g 95 xs1.toNat (xs2 + xs3)) 0 0 P) : V miX12_waysOf (d + 1) 55 [(0, .ref 53), (1, I_ x1), (2, I_ x2), (3, I_ x3)] [L_ xs3, L_ xs2, I_ xs1, .ref 95] n (W0 dy) g 0 0 P := by
  refine v_ladd 37 rfl ?_
  have c1 := h.1
  have h := h.2
  have c2 := h.1
  have h := h.2
  refine v_last (N := 1024) 38 rfl (al 95 rfl hn) (wk95 dy) (wn95 dy) (by decide) c1 c2 ?_
  refine v_iinc 39 3 [1, 2, 3, 0] rfl rfl (by decide) rfl ?_
  refine v_goto 40 rfl (tgt := 21) rfl ?_
  exact h
set_option maxHeartbeats 8000000 in
set_option maxRecDepth 4000 in
theorem bX12_waysOf_86 {d n : Nat} {dy : Nat → Shp} {g : Hp} {P : Pst} {x1 : Int} {x2 : Int} {x3 : Int} {xs1 : Int} {xs2 : Int} (hn : 100 ≤ n) (h : (0 ≤ xs1 ∧ xs1 < 9216) ∧ (i3 xs2) ∧ V miX12_waysOf (d + 1) 2 [(0, .ref 53), (1, I_ x1), (2, I_ (x2 + 1))] [] n (W0 dy) (up2 g 94 xs1.toNat xs2) 0 0 P) : V miX12_waysOf (d + 1) 86 [(0, .ref 53), (1, I_ x1), (2, I_ x2), (3, I_ x3)] [I_ xs2, I_ xs1, .ref 94] n (W0 dy) g 0 0 P := by
  have c1 := h.1
  have h := h.2
  have c2 := h.1
  have h := h.2
  refine v_iast (N := 9216) 54 rfl (al 94 rfl hn) (wk94 dy) (wn94 dy) (by decide) c1 c2 ?_
  refine v_iinc 55 2 [1, 2, 0, 3] rfl rfl (by decide) rfl ?_
  refine v_goto 56 rfl (tgt := 2) rfl ?_
  refine v_loc [0, 1, 2] rfl ?_
  exact h
set_option maxHeartbeats 8000000 in
set_option maxRecDepth 4000 in
theorem bX12_waysOf_100 {d n : Nat} {dy : Nat → Shp} {g : Hp} {P : Pst} {x1 : Int} {x2 : Int} (hn : 100 ≤ n) (h : (i3 x2) ∧ ((x2 < 0) → (0 ≤ x1 ∧ x1 < 9216) ∧ P (some (I_ (g 94 x1.toNat))) n (W0 dy) g) ∧ ((0 ≤ x2) → V miX12_waysOf (d + 1) 106 [(0, .ref 53), (1, I_ x1), (2, I_ x2), (3, I_ 0)] [] n (W0 dy) g 0 0 P)) : V miX12_waysOf (d + 1) 100 [(0, .ref 53), (1, I_ x1), (2, I_ x2)] [] n (W0 dy) g 0 0 P := by
  refine v_iload_n 62 2 rfl rfl rfl ?_
  have c1 := h.1
  have h := h.2
  refine v_if_lt 63 rfl (tgt := 276) rfl c1 (fun q5 => ?_) (fun q5 => ?_)
  · have h := h.1 q5
    refine v_aload_n 168 0 rfl rfl rfl ?_
    refine v_gK 169 rfl fl12_133_11.r (al 53 rfl hn) (wk53 dy) (by decide) rfl (r := 94) (wc53_52 dy) ?_
    refine v_iload_n 170 1 rfl rfl rfl ?_
    have c2 := h.1
    have h := h.2
    refine v_ia (N := 9216) 171 rfl (al 94 rfl hn) (wk94 dy) (wn94 dy) (by decide) c2 (y := g 94 x1.toNat) rfl ?_
    refine v_rng fun w3 => ?_
    have r4 : i3 (g 94 x1.toNat) := rI w3 (q := x1.toNat) (al 94 rfl hn) (wk94 dy) rfl rfl
    exact v_ret (v := some (I_ (g 94 x1.toNat))) 172 rfl (Nat.zero_le _) (Nat.zero_le _) trivial rfl h
  · have h := h.2 q5
    refine v_iconst 64 rfl ?_
    refine v_istore_n 65 [1, 2, 3, 0] rfl rfl (by decide) rfl ?_
    exact h
set_option maxHeartbeats 8000000 in
set_option maxRecDepth 4000 in
theorem bX12_waysOf_106 {d n : Nat} {dy : Nat → Shp} {g : Hp} {P : Pst} {x1 : Int} {x2 : Int} {x3 : Int} (hn : 100 ≤ n) (h : (i3 x3) ∧ (((shl3 1 (g 53 42)) ≤ x3) → V miX12_waysOf (d + 1) 100 [(0, .ref 53), (1, I_ x1), (2, I_ (x2 + (-1)))] [] n (W0 dy) g 0 0 P) ∧ ((x3 < (shl3 1 (g 53 42))) → (((and3 x3 x1) = x3) → V miX12_waysOf (d + 1) 132 [(0, .ref 53), (1, I_ x1), (2, I_ x2), (3, I_ x3), (4, I_ 0), (5, I_ x3)] [] n (W0 dy) g 0 0 P) ∧ (((and3 x3 x1) ≠ x3) → V miX12_waysOf (d + 1) 264 [(0, .ref 53), (1, I_ x1), (2, I_ x2), (3, I_ x3)] [] n (W0 dy) g 0 0 P))) : V miX12_waysOf (d + 1) 106 [(0, .ref 53), (1, I_ x1), (2, I_ x2), (3, I_ x3)] [] n (W0 dy) g 0 0 P := by
  refine v_iload_n 66 3 rfl rfl rfl ?_
  refine v_iconst 67 rfl ?_
  refine v_aload_n 68 0 rfl rfl rfl ?_
  refine v_gI 69 rfl fl12_351_11.r (al 53 rfl hn) (wk53 dy) (by decide) rfl (wc53_42 dy) (x := g 53 42) rfl ?_
  refine v_rng fun w1 => ?_
  have r2 : i3 (g 53 42) := rI w1 (q := 42) (al 53 rfl hn) (wk53 dy) rfl rfl
  refine v_ishl 70 rfl ?_
  have c3 := h.1
  have h := h.2
  refine v_icmp_ge 71 rfl (tgt := 270) rfl c3 (shl3_r _ _) (fun q5 => ?_) (fun q5 => ?_)
  · have h := h.1 q5
    refine v_iinc 166 2 [1, 2, 0, 3] rfl rfl (by decide) rfl ?_
    refine v_goto 167 rfl (tgt := 100) rfl ?_
    refine v_loc [0, 1, 2] rfl ?_
    exact h
  · have h := h.2 q5
    refine v_iload_n 72 3 rfl rfl rfl ?_
    refine v_iload_n 73 1 rfl rfl rfl ?_
    refine v_iand 74 rfl ?_
    refine v_iload_n 75 3 rfl rfl rfl ?_
    refine v_icmp_eq 76 rfl (tgt := 126) rfl (and3_r _ _) c3 (fun q4 => ?_) (fun q4 => ?_)
    · have h := h.1 q4
      refine v_iconst 78 rfl ?_
      refine v_istore 79 [1, 2, 3, 4, 0] rfl (by decide) rfl ?_
      refine v_iload_n 80 3 rfl rfl rfl ?_
      refine v_istore 81 [1, 2, 3, 4, 5, 0] rfl (by decide) rfl ?_
      exact h
    · have h := h.2 q4
      refine v_goto 77 rfl (tgt := 264) rfl ?_
      exact h
set_option maxHeartbeats 8000000 in
set_option maxRecDepth 4000 in
theorem bX12_waysOf_132 {d n : Nat} {dy : Nat → Shp} {g : Hp} {P : Pst} {x1 : Int} {x2 : Int} {x3 : Int} {x4 : Int} {x5 : Int} (hn : 100 ≤ n) (h : (i3 x5) ∧ ((x5 ≤ 0) → (0 ≤ x2 ∧ x2 < 8) ∧ (((g 88 x2.toNat) ≠ 0) → V miX12_waysOf (d + 1) 250 [(0, .ref 53), (1, I_ x1), (2, I_ x2), (3, I_ x3), (4, I_ x4), (5, I_ x5)] [] n (W0 dy) g 0 0 P) ∧ (((g 88 x2.toNat) = 0) → (0 ≤ (1024 * (x2 + 1)) + x3 ∧ (1024 * (x2 + 1)) + x3 < 9216) ∧ V miX12_waysOf (d + 1) 250 [(0, .ref 53), (1, I_ x1), (2, I_ x2), (3, I_ x3), (4, I_ (x4 + (g 94 (((1024 * (x2 + 1)) + x3).toNat)))), (5, I_ x5)] [] n (W0 dy) g 0 0 P)) ∧ ((0 < x5) → (0 ≤ x5 ∧ x5 < 1024) ∧ (0 ≤ x2 ∧ x2 < 8) ∧ (((g 95 x5.toNat) ≠ (g 88 x2.toNat)) → V miX12_waysOf (d + 1) 209 [(0, .ref 53), (1, I_ x1), (2, I_ x2), (3, I_ x3), (4, I_ x4), (5, I_ x5)] [] n (W0 dy) g 0 0 P) ∧ (((g 95 x5.toNat) = (g 88 x2.toNat)) → (0 ≤ (1024 * (x2 + 1)) + (xor3 x3 x5) ∧ (1024 * (x2 + 1)) + (xor3 x3 x5) < 9216) ∧ (((g 94 (((1024 * (x2 + 1)) + (xor3 x3 x5)).toNat)) = 0) → V miX12_waysOf (d + 1) 209 [(0, .ref 53), (1, I_ x1), (2, I_ x2), (3, I_ x3), (4, I_ x4), (5, I_ x5)] [] n (W0 dy) g 0 0 P) ∧ (((g 94 (((1024 * (x2 + 1)) + (xor3 x3 x5)).toNat)) ≠ 0) → Runs miX12_isFirstOf d [.ref 53, I_ x5, I_ x3] n (W0 dy) g (fun v n' S' g' => V miX12_waysOf (d + 1) 181 [(0, .ref 53), (1, I_ x1), (2, I_ x2), (3, I_ x3), (4, I_ x4), (5, I_ x5)] (v.toList ++ []) n' S' g' 0 0 P))))) : V miX12_waysOf (d + 1) 132 [(0, .ref 53), (1, I_ x1), (2, I_ x2), (3, I_ x3), (4, I_ x4), (5, I_ x5)] [] n (W0 dy) g 0 0 P := by
  refine v_iload 82 5 rfl rfl ?_
  have c1 := h.1
  have h := h.2
  refine v_if_le 83 rfl (tgt := 220) rfl c1 (fun q20 => ?_) (fun q20 => ?_)
  · have h := h.1 q20
    refine v_aload_n 135 0 rfl rfl rfl ?_
    refine v_gK 136 rfl fl12_115_11.r (al 53 rfl hn) (wk53 dy) (by decide) rfl (r := 88) (wc53_45 dy) ?_
    refine v_iload_n 137 2 rfl rfl rfl ?_
    have c2 := h.1
    have h := h.2
    refine v_la (N := 8) 138 rfl (al 88 rfl hn) (wk88 dy) (wn88 dy) (by decide) c2 (y := g 88 x2.toNat) rfl ?_
    refine v_rng fun w3 => ?_
    have r4 : i6 (g 88 x2.toNat) := rL w3 (q := x2.toNat) (al 88 rfl hn) (wk88 dy) rfl rfl
    refine v_lconst (v := 0) 139 rfl (by decide) ?_
    refine v_lif_ne 140 rfl rfl (tgt := 250) rfl r4 (by decide) (fun q8 => ?_) (fun q8 => ?_)
    · have h := h.1 q8
      exact h
    · have h := h.2 q8
      refine v_iload 142 4 rfl rfl ?_
      refine v_aload_n 143 0 rfl rfl rfl ?_
      refine v_gK 144 rfl fl12_133_11.r (al 53 rfl hn) (wk53 dy) (by decide) rfl (r := 94) (wc53_52 dy) ?_
      refine v_sipush 145 rfl (by decide) ?_
      refine v_iload_n 146 2 rfl rfl rfl ?_
      refine v_iconst 147 rfl ?_
      refine v_iadd 148 rfl ?_
      refine v_imul 149 rfl ?_
      refine v_iload_n 150 3 rfl rfl rfl ?_
      refine v_iadd 151 rfl ?_
      have c5 := h.1
      have h := h.2
      refine v_ia (N := 9216) 152 rfl (al 94 rfl hn) (wk94 dy) (wn94 dy) (by decide) c5 (y := g 94 (((1024 * (x2 + 1)) + x3).toNat)) rfl ?_
      refine v_rng fun w6 => ?_
      have r7 : i3 (g 94 (((1024 * (x2 + 1)) + x3).toNat)) := rI w6 (q := (((1024 * (x2 + 1)) + x3).toNat)) (al 94 rfl hn) (wk94 dy) rfl rfl
      refine v_iadd 153 rfl ?_
      refine v_istore 154 [1, 2, 3, 4, 0, 5] rfl (by decide) rfl ?_
      exact h
  · have h := h.2 q20
    refine v_aload_n 84 0 rfl rfl rfl ?_
    refine v_gK 85 rfl fl12_136_11.r (al 53 rfl hn) (wk53 dy) (by decide) rfl (r := 95) (wc53_53 dy) ?_
    refine v_iload 86 5 rfl rfl ?_
    have c9 := h.1
    have h := h.2
    refine v_la (N := 1024) 87 rfl (al 95 rfl hn) (wk95 dy) (wn95 dy) (by decide) c9 (y := g 95 x5.toNat) rfl ?_
    refine v_rng fun w10 => ?_
    have r11 : i6 (g 95 x5.toNat) := rL w10 (q := x5.toNat) (al 95 rfl hn) (wk95 dy) rfl rfl
    refine v_aload_n 88 0 rfl rfl rfl ?_
    refine v_gK 89 rfl fl12_115_11.r (al 53 rfl hn) (wk53 dy) (by decide) rfl (r := 88) (wc53_45 dy) ?_
    refine v_iload_n 90 2 rfl rfl rfl ?_
    have c12 := h.1
    have h := h.2
    refine v_la (N := 8) 91 rfl (al 88 rfl hn) (wk88 dy) (wn88 dy) (by decide) c12 (y := g 88 x2.toNat) rfl ?_
    refine v_rng fun w13 => ?_
    have r14 : i6 (g 88 x2.toNat) := rL w13 (q := x2.toNat) (al 88 rfl hn) (wk88 dy) rfl rfl
    refine v_lif_ne 92 rfl rfl (tgt := 209) rfl r11 r14 (fun q19 => ?_) (fun q19 => ?_)
    · have h := h.1 q19
      exact h
    · have h := h.2 q19
      refine v_aload_n 94 0 rfl rfl rfl ?_
      refine v_gK 95 rfl fl12_133_11.r (al 53 rfl hn) (wk53 dy) (by decide) rfl (r := 94) (wc53_52 dy) ?_
      refine v_sipush 96 rfl (by decide) ?_
      refine v_iload_n 97 2 rfl rfl rfl ?_
      refine v_iconst 98 rfl ?_
      refine v_iadd 99 rfl ?_
      refine v_imul 100 rfl ?_
      refine v_iload_n 101 3 rfl rfl rfl ?_
      refine v_iload 102 5 rfl rfl ?_
      refine v_ixor 103 rfl ?_
      refine v_iadd 104 rfl ?_
      have c15 := h.1
      have h := h.2
      refine v_ia (N := 9216) 105 rfl (al 94 rfl hn) (wk94 dy) (wn94 dy) (by decide) c15 (y := g 94 (((1024 * (x2 + 1)) + (xor3 x3 x5)).toNat)) rfl ?_
      refine v_rng fun w16 => ?_
      have r17 : i3 (g 94 (((1024 * (x2 + 1)) + (xor3 x3 x5)).toNat)) := rI w16 (q := (((1024 * (x2 + 1)) + (xor3 x3 x5)).toNat)) (al 94 rfl hn) (wk94 dy) rfl rfl
      refine v_if_eq 106 rfl (tgt := 209) rfl r17 (fun q18 => ?_) (fun q18 => ?_)
      · have h := h.1 q18
        exact h
      · have h := h.2 q18
        refine v_aload_n 107 0 rfl rfl rfl ?_
        refine v_iload 108 5 rfl rfl ?_
        refine v_iload_n 109 3 rfl rfl rfl ?_
        refine v_callV (st := []) [I_ x5, I_ x3] 110 rfl lv12_357_waysOf_11 (al 53 rfl hn) (wk53 dy) (by decide) rfl (Nat.le_refl _) (Nat.le_refl _) ?_
        exact h
set_option maxHeartbeats 8000000 in
set_option maxRecDepth 4000 in
theorem bX12_waysOf_181 {d n : Nat} {dy : Nat → Shp} {g : Hp} {P : Pst} {x1 : Int} {x2 : Int} {x3 : Int} {x4 : Int} {x5 : Int} {xs0 : Int} (hn : 100 ≤ n) (h : (i3 xs0) ∧ ((xs0 ≠ 0) → (0 ≤ (1024 * (x2 + 1)) + (xor3 x3 x5) ∧ (1024 * (x2 + 1)) + (xor3 x3 x5) < 9216) ∧ V miX12_waysOf (d + 1) 209 [(0, .ref 53), (1, I_ x1), (2, I_ x2), (3, I_ x3), (4, I_ (x4 + (g 94 (((1024 * (x2 + 1)) + (xor3 x3 x5)).toNat)))), (5, I_ x5)] [] n (W0 dy) g 0 0 P) ∧ ((xs0 = 0) → V miX12_waysOf (d + 1) 209 [(0, .ref 53), (1, I_ x1), (2, I_ x2), (3, I_ x3), (4, I_ x4), (5, I_ x5)] [] n (W0 dy) g 0 0 P)) : V miX12_waysOf (d + 1) 181 [(0, .ref 53), (1, I_ x1), (2, I_ x2), (3, I_ x3), (4, I_ x4), (5, I_ x5)] [I_ xs0] n (W0 dy) g 0 0 P := by
  have c1 := h.1
  have h := h.2
  refine v_if_ne 111 rfl (tgt := 187) rfl c1 (fun q5 => ?_) (fun q5 => ?_)
  · have h := h.1 q5
    refine v_iload 113 4 rfl rfl ?_
    refine v_aload_n 114 0 rfl rfl rfl ?_
    refine v_gK 115 rfl fl12_133_11.r (al 53 rfl hn) (wk53 dy) (by decide) rfl (r := 94) (wc53_52 dy) ?_
    refine v_sipush 116 rfl (by decide) ?_
    refine v_iload_n 117 2 rfl rfl rfl ?_
    refine v_iconst 118 rfl ?_
    refine v_iadd 119 rfl ?_
    refine v_imul 120 rfl ?_
    refine v_iload_n 121 3 rfl rfl rfl ?_
    refine v_iload 122 5 rfl rfl ?_
    refine v_ixor 123 rfl ?_
    refine v_iadd 124 rfl ?_
    have c2 := h.1
    have h := h.2
    refine v_ia (N := 9216) 125 rfl (al 94 rfl hn) (wk94 dy) (wn94 dy) (by decide) c2 (y := g 94 (((1024 * (x2 + 1)) + (xor3 x3 x5)).toNat)) rfl ?_
    refine v_rng fun w3 => ?_
    have r4 : i3 (g 94 (((1024 * (x2 + 1)) + (xor3 x3 x5)).toNat)) := rI w3 (q := (((1024 * (x2 + 1)) + (xor3 x3 x5)).toNat)) (al 94 rfl hn) (wk94 dy) rfl rfl
    refine v_iadd 126 rfl ?_
    refine v_istore 127 [1, 2, 3, 4, 0, 5] rfl (by decide) rfl ?_
    exact h
  · have h := h.2 q5
    refine v_goto 112 rfl (tgt := 209) rfl ?_
    exact h
set_option maxHeartbeats 8000000 in
set_option maxRecDepth 4000 in
theorem bX12_waysOf_209 {d n : Nat} {dy : Nat → Shp} {g : Hp} {P : Pst} {x1 : Int} {x2 : Int} {x3 : Int} {x4 : Int} {x5 : Int} (hn : 100 ≤ n) (h : V miX12_waysOf (d + 1) 132 [(0, .ref 53), (1, I_ x1), (2, I_ x2), (3, I_ x3), (4, I_ x4), (5, I_ (and3 (x5 - 1) x3))] [] n (W0 dy) g 0 0 P) : V miX12_waysOf (d + 1) 209 [(0, .ref 53), (1, I_ x1), (2, I_ x2), (3, I_ x3), (4, I_ x4), (5, I_ x5)] [] n (W0 dy) g 0 0 P := by
  refine v_iload 128 5 rfl rfl ?_
  refine v_iconst 129 rfl ?_
  refine v_isub 130 rfl ?_
  refine v_iload_n 131 3 rfl rfl rfl ?_
  refine v_iand 132 rfl ?_
  refine v_istore 133 [1, 2, 3, 4, 5, 0] rfl (by decide) rfl ?_
  refine v_goto 134 rfl (tgt := 132) rfl ?_
  exact h
set_option maxHeartbeats 8000000 in
set_option maxRecDepth 4000 in
theorem bX12_waysOf_250 {d n : Nat} {dy : Nat → Shp} {g : Hp} {P : Pst} {x1 : Int} {x2 : Int} {x3 : Int} {x4 : Int} {x5 : Int} (hn : 100 ≤ n) (h : (0 ≤ (1024 * x2) + x3 ∧ (1024 * x2) + x3 < 9216) ∧ (i3 x4) ∧ V miX12_waysOf (d + 1) 264 [(0, .ref 53), (1, I_ x1), (2, I_ x2), (3, I_ x3)] [] n (W0 dy) (up2 g 94 (((1024 * x2) + x3).toNat) x4) 0 0 P) : V miX12_waysOf (d + 1) 250 [(0, .ref 53), (1, I_ x1), (2, I_ x2), (3, I_ x3), (4, I_ x4), (5, I_ x5)] [] n (W0 dy) g 0 0 P := by
  refine v_aload_n 155 0 rfl rfl rfl ?_
  refine v_gK 156 rfl fl12_133_11.r (al 53 rfl hn) (wk53 dy) (by decide) rfl (r := 94) (wc53_52 dy) ?_
  refine v_sipush 157 rfl (by decide) ?_
  refine v_iload_n 158 2 rfl rfl rfl ?_
  refine v_imul 159 rfl ?_
  refine v_iload_n 160 3 rfl rfl rfl ?_
  refine v_iadd 161 rfl ?_
  refine v_iload 162 4 rfl rfl ?_
  have c1 := h.1
  have h := h.2
  have c2 := h.1
  have h := h.2
  refine v_iast (N := 9216) 163 rfl (al 94 rfl hn) (wk94 dy) (wn94 dy) (by decide) c1 c2 ?_
  refine v_loc [0, 1, 2, 3] rfl ?_
  exact h
set_option maxHeartbeats 8000000 in
set_option maxRecDepth 4000 in
theorem bX12_waysOf_264 {d n : Nat} {dy : Nat → Shp} {g : Hp} {P : Pst} {x1 : Int} {x2 : Int} {x3 : Int} (hn : 100 ≤ n) (h : V miX12_waysOf (d + 1) 106 [(0, .ref 53), (1, I_ x1), (2, I_ x2), (3, I_ (x3 + 1))] [] n (W0 dy) g 0 0 P) : V miX12_waysOf (d + 1) 264 [(0, .ref 53), (1, I_ x1), (2, I_ x2), (3, I_ x3)] [] n (W0 dy) g 0 0 P := by
  refine v_iinc 164 3 [1, 2, 3, 0] rfl rfl (by decide) rfl ?_
  refine v_goto 165 rfl (tgt := 106) rfl ?_
  exact h
theorem lv12_360_ways_11 : LkV miX12_ways miX12_parted 360 4 11 := ⟨⟨⟨tbG_in (List.mem_append_right _ (List.mem_of_getElem? (i := 1601) (by decide +kernel))) rfl, tbG_in (List.mem_append_right _ (List.mem_of_getElem? (i := 9) (by decide +kernel))) rfl, tbG_in (List.mem_append_right _ (List.mem_of_getElem? (i := 1598) (by decide +kernel))) rfl⟩, ⟨by decide +kernel, by decide +kernel, by decide +kernel⟩, by decide⟩, tbG_in (List.mem_append_right _ (List.mem_of_getElem? (i := 1600) (by decide +kernel))) rfl, RX12, TX12, 58, rfl, tbG_in (List.mem_append_left _ (List.mem_of_getElem? (i := 87) (by decide +kernel))) rfl⟩
theorem lv12_364_ways_11 : LkV miX12_ways miX12_waysOf 364 1 11 := ⟨⟨⟨tbG_in (List.mem_append_right _ (List.mem_of_getElem? (i := 1614) (by decide +kernel))) rfl, tbG_in (List.mem_append_right _ (List.mem_of_getElem? (i := 9) (by decide +kernel))) rfl, tbG_in (List.mem_append_right _ (List.mem_of_getElem? (i := 1611) (by decide +kernel))) rfl⟩, ⟨by decide +kernel, by decide +kernel, by decide +kernel⟩, by decide⟩, tbG_in (List.mem_append_right _ (List.mem_of_getElem? (i := 1613) (by decide +kernel))) rfl, RX12, TX12, 58, rfl, tbG_in (List.mem_append_left _ (List.mem_of_getElem? (i := 90) (by decide +kernel))) rfl⟩
set_option maxHeartbeats 8000000 in
set_option maxRecDepth 4000 in
theorem bX12_ways_0 {d n : Nat} {dy : Nat → Shp} {g : Hp} {P : Pst} {x1 : Int} {x2 : Int} (hn : 100 ≤ n) (h : Runs miX12_parted d [.ref 53, I_ x1, I_ x2, I_ 0, I_ 0] n (W0 dy) (up2 g 53 1 0) (fun v n' S' g' => V miX12_ways (d + 1) 14 [(0, .ref 53), (1, I_ x1), (2, I_ x2)] (v.toList ++ [.ref 53]) n' S' g' 0 0 P)) : V miX12_ways (d + 1) 0 [(0, .ref 53), (1, I_ x1), (2, I_ x2)] [] n (W0 dy) g 0 0 P := by
  refine v_aload_n 0 0 rfl rfl rfl ?_
  refine v_iconst 1 rfl ?_
  refine v_putI 2 rfl fl12_148_11 (al 53 rfl hn) (wk53 dy) (by decide) rfl (wc53_1 dy) (by decide) ?_
  refine v_aload_n 3 0 rfl rfl rfl ?_
  refine v_aload_n 4 0 rfl rfl rfl ?_
  refine v_iload_n 5 1 rfl rfl rfl ?_
  refine v_iload_n 6 2 rfl rfl rfl ?_
  refine v_iconst 7 rfl ?_
  refine v_iconst 8 rfl ?_
  refine v_callV (st := [.ref 53]) [I_ x1, I_ x2, I_ 0, I_ 0] 9 rfl lv12_360_ways_11 (al 53 rfl hn) (wk53 dy) (by decide) rfl (Nat.le_refl _) (Nat.le_refl _) ?_
  exact h
set_option maxHeartbeats 8000000 in
set_option maxRecDepth 4000 in
theorem bX12_ways_14 {d n : Nat} {dy : Nat → Shp} {g : Hp} {P : Pst} {x1 : Int} {x2 : Int} {xs1 : Int} (hn : 100 ≤ n) (h : (i3 xs1) ∧ ((xs1 ≤ 0) → Runs miX12_waysOf d [.ref 53, I_ ((shl3 1 (g 53 42)) - 1)] n (W0 dy) (up2 g 53 0 xs1) (fun v n' S' g' => V miX12_ways (d + 1) 40 [(0, .ref 53), (1, I_ x1), (2, I_ x2)] (v.toList ++ []) n' S' g' 0 0 P)) ∧ ((0 < xs1) → V miX12_ways (d + 1) 40 [(0, .ref 53), (1, I_ x1), (2, I_ x2)] [I_ ((-1))] n (W0 dy) (up2 g 53 0 xs1) 0 0 P)) : V miX12_ways (d + 1) 14 [(0, .ref 53), (1, I_ x1), (2, I_ x2)] [I_ xs1, .ref 53] n (W0 dy) g 0 0 P := by
  have c1 := h.1
  have h := h.2
  refine v_putI 10 rfl fl12_152_11 (al 53 rfl hn) (wk53 dy) (by decide) rfl (wc53_0 dy) c1 ?_
  refine v_aload_n 11 0 rfl rfl rfl ?_
  refine v_gI 12 rfl fl12_152_11.r (al 53 rfl hn) (wk53 dy) (by decide) rfl (wc53_0 dy) (x := xs1) rfl ?_
  refine v_rng fun w2 => ?_
  have r3 : i3 (xs1) := rI w2 (q := 0) (al 53 rfl hn) (wk53 dy) rfl rfl
  refine v_if_le 13 rfl (tgt := 28) rfl r3 (fun q6 => ?_) (fun q6 => ?_)
  · have h := h.1 q6
    refine v_aload_n 16 0 rfl rfl rfl ?_
    refine v_iconst 17 rfl ?_
    refine v_aload_n 18 0 rfl rfl rfl ?_
    refine v_gI 19 rfl fl12_351_11.r (al 53 rfl hn) (wk53 dy) (by decide) rfl (wc53_42 dy) (x := g 53 42) rfl ?_
    refine v_rng fun w4 => ?_
    have r5 : i3 (g 53 42) := rI w4 (q := 42) (al 53 rfl hn) (wk53 dy) rfl rfl
    refine v_ishl 20 rfl ?_
    refine v_iconst 21 rfl ?_
    refine v_isub 22 rfl ?_
    refine v_callV (st := []) [I_ ((shl3 1 (g 53 42)) - 1)] 23 rfl lv12_364_ways_11 (al 53 rfl hn) (wk53 dy) (by decide) rfl (Nat.le_refl _) (Nat.le_refl _) ?_
    exact h
  · have h := h.2 q6
    refine v_iconst 14 rfl ?_
    refine v_goto 15 rfl (tgt := 40) rfl ?_
    exact h
set_option maxHeartbeats 8000000 in
set_option maxRecDepth 4000 in
theorem bX12_ways_40 {d n : Nat} {dy : Nat → Shp} {g : Hp} {P : Pst} {x1 : Int} {x2 : Int} {xs0 : Int} (hn : 100 ≤ n) (h : P (some (I_ xs0)) n (W0 dy) g) : V miX12_ways (d + 1) 40 [(0, .ref 53), (1, I_ x1), (2, I_ x2)] [I_ xs0] n (W0 dy) g 0 0 P := by
  exact v_ret (v := some (I_ xs0)) 24 rfl (Nat.zero_le _) (Nat.zero_le _) trivial rfl h
theorem lv12_360_fill_11 : LkV miX12_fill miX12_parted 360 4 11 := ⟨⟨⟨tbG_in (List.mem_append_right _ (List.mem_of_getElem? (i := 1601) (by decide +kernel))) rfl, tbG_in (List.mem_append_right _ (List.mem_of_getElem? (i := 9) (by decide +kernel))) rfl, tbG_in (List.mem_append_right _ (List.mem_of_getElem? (i := 1598) (by decide +kernel))) rfl⟩, ⟨by decide +kernel, by decide +kernel, by decide +kernel⟩, by decide⟩, tbG_in (List.mem_append_right _ (List.mem_of_getElem? (i := 1600) (by decide +kernel))) rfl, RX12, TX12, 58, rfl, tbG_in (List.mem_append_left _ (List.mem_of_getElem? (i := 87) (by decide +kernel))) rfl⟩
theorem lv12_364_fill_11 : LkV miX12_fill miX12_waysOf 364 1 11 := ⟨⟨⟨tbG_in (List.mem_append_right _ (List.mem_of_getElem? (i := 1614) (by decide +kernel))) rfl, tbG_in (List.mem_append_right _ (List.mem_of_getElem? (i := 9) (by decide +kernel))) rfl, tbG_in (List.mem_append_right _ (List.mem_of_getElem? (i := 1611) (by decide +kernel))) rfl⟩, ⟨by decide +kernel, by decide +kernel, by decide +kernel⟩, by decide⟩, tbG_in (List.mem_append_right _ (List.mem_of_getElem? (i := 1613) (by decide +kernel))) rfl, RX12, TX12, 58, rfl, tbG_in (List.mem_append_left _ (List.mem_of_getElem? (i := 90) (by decide +kernel))) rfl⟩
theorem lv12_174_fill_11 : LkV miX12_fill miX12_refuse 174 1 11 := ⟨⟨⟨tbG_in (List.mem_append_right _ (List.mem_of_getElem? (i := 1351) (by decide +kernel))) rfl, tbG_in (List.mem_append_right _ (List.mem_of_getElem? (i := 9) (by decide +kernel))) rfl, tbG_in (List.mem_append_right _ (List.mem_of_getElem? (i := 1348) (by decide +kernel))) rfl⟩, ⟨by decide +kernel, by decide +kernel, by decide +kernel⟩, by decide⟩, tbG_in (List.mem_append_right _ (List.mem_of_getElem? (i := 1350) (by decide +kernel))) rfl, RX12, TX12, 58, rfl, tbG_in (List.mem_append_left _ (List.mem_of_getElem? (i := 50) (by decide +kernel))) rfl⟩
set_option maxHeartbeats 8000000 in
set_option maxRecDepth 4000 in
theorem bX12_fill_0 {d n : Nat} {dy : Nat → Shp} {g : Hp} {P : Pst} {x1 : Int} {x2 : Int} {x3 : Int} (hn : 100 ≤ n) (h : Runs miX12_parted d [.ref 53, I_ x1, I_ x2, I_ x3, I_ 1] n (W0 dy) (up2 g 53 1 0) (fun v n' S' g' => V miX12_fill (d + 1) 14 [(0, .ref 53), (1, I_ x1), (2, I_ x2), (3, I_ x3)] (v.toList ++ [.ref 53]) n' S' g' 0 0 P)) : V miX12_fill (d + 1) 0 [(0, .ref 53), (1, I_ x1), (2, I_ x2), (3, I_ x3)] [] n (W0 dy) g 0 0 P := by
  refine v_aload_n 0 0 rfl rfl rfl ?_
  refine v_iconst 1 rfl ?_
  refine v_putI 2 rfl fl12_148_11 (al 53 rfl hn) (wk53 dy) (by decide) rfl (wc53_1 dy) (by decide) ?_
  refine v_aload_n 3 0 rfl rfl rfl ?_
  refine v_aload_n 4 0 rfl rfl rfl ?_
  refine v_iload_n 5 1 rfl rfl rfl ?_
  refine v_iload_n 6 2 rfl rfl rfl ?_
  refine v_iload_n 7 3 rfl rfl rfl ?_
  refine v_iconst 8 rfl ?_
  refine v_callV (st := [.ref 53]) [I_ x1, I_ x2, I_ x3, I_ 1] 9 rfl lv12_360_fill_11 (al 53 rfl hn) (wk53 dy) (by decide) rfl (Nat.le_refl _) (Nat.le_refl _) ?_
  exact h
set_option maxHeartbeats 8000000 in
set_option maxRecDepth 4000 in
theorem bX12_fill_14 {d n : Nat} {dy : Nat → Shp} {g : Hp} {P : Pst} {x1 : Int} {x2 : Int} {x3 : Int} {xs1 : Int} (hn : 100 ≤ n) (h : (i3 xs1) ∧ ((xs1 ≤ 0) → Runs miX12_waysOf d [.ref 53, I_ ((shl3 1 (g 53 42)) - 1)] n (W0 dy) (up2 g 53 0 xs1) (fun v n' S' g' => V miX12_fill (d + 1) 42 [(0, .ref 53), (1, I_ x1), (2, I_ x2), (3, I_ x3), (4, I_ ((shl3 1 (g 53 42)) - 1))] (v.toList ++ []) n' S' g' 0 0 P)) ∧ ((0 < xs1) → P (some (I_ ((-1)))) n (W0 dy) (up2 g 53 0 xs1))) : V miX12_fill (d + 1) 14 [(0, .ref 53), (1, I_ x1), (2, I_ x2), (3, I_ x3)] [I_ xs1, .ref 53] n (W0 dy) g 0 0 P := by
  have c1 := h.1
  have h := h.2
  refine v_putI 10 rfl fl12_152_11 (al 53 rfl hn) (wk53 dy) (by decide) rfl (wc53_0 dy) c1 ?_
  refine v_aload_n 11 0 rfl rfl rfl ?_
  refine v_gI 12 rfl fl12_152_11.r (al 53 rfl hn) (wk53 dy) (by decide) rfl (wc53_0 dy) (x := xs1) rfl ?_
  refine v_rng fun w2 => ?_
  have r3 : i3 (xs1) := rI w2 (q := 0) (al 53 rfl hn) (wk53 dy) rfl rfl
  refine v_if_le 13 rfl (tgt := 26) rfl r3 (fun q6 => ?_) (fun q6 => ?_)
  · have h := h.1 q6
    refine v_iconst 16 rfl ?_
    refine v_aload_n 17 0 rfl rfl rfl ?_
    refine v_gI 18 rfl fl12_351_11.r (al 53 rfl hn) (wk53 dy) (by decide) rfl (wc53_42 dy) (x := g 53 42) rfl ?_
    refine v_rng fun w4 => ?_
    have r5 : i3 (g 53 42) := rI w4 (q := 42) (al 53 rfl hn) (wk53 dy) rfl rfl
    refine v_ishl 19 rfl ?_
    refine v_iconst 20 rfl ?_
    refine v_isub 21 rfl ?_
    refine v_istore 22 [1, 2, 3, 4, 0] rfl (by decide) rfl ?_
    refine v_aload_n 23 0 rfl rfl rfl ?_
    refine v_iload 24 4 rfl rfl ?_
    refine v_callV (st := []) [I_ ((shl3 1 (g 53 42)) - 1)] 25 rfl lv12_364_fill_11 (al 53 rfl hn) (wk53 dy) (by decide) rfl (Nat.le_refl _) (Nat.le_refl _) ?_
    exact h
  · have h := h.2 q6
    refine v_iconst 14 rfl ?_
    exact v_ret (v := some (I_ ((-1)))) 15 rfl (Nat.zero_le _) (Nat.zero_le _) trivial rfl h
set_option maxHeartbeats 8000000 in
set_option maxRecDepth 4000 in
theorem bX12_fill_42 {d n : Nat} {dy : Nat → Shp} {g : Hp} {P : Pst} {x1 : Int} {x2 : Int} {x3 : Int} {x4 : Int} {xs0 : Int} (hn : 100 ≤ n) (h : (i3 xs0) ∧ ((xs0 ≠ 0) → V miX12_fill (d + 1) 58 [(0, .ref 53), (1, I_ x1), (2, I_ x2), (3, I_ x3), (4, I_ x4), (5, I_ ((-1))), (6, I_ 0)] [] n (W0 dy) g 0 0 P) ∧ ((xs0 = 0) → Runs miX12_refuse d [.ref 53, I_ 11] n (W0 dy) g (fun v n' S' g' => V miX12_fill (d + 1) 51 [(0, .ref 53), (1, I_ x1), (2, I_ x2), (3, I_ x3), (4, I_ x4)] (v.toList ++ []) n' S' g' 0 0 P))) : V miX12_fill (d + 1) 42 [(0, .ref 53), (1, I_ x1), (2, I_ x2), (3, I_ x3), (4, I_ x4)] [I_ xs0] n (W0 dy) g 0 0 P := by
  have c1 := h.1
  have h := h.2
  refine v_if_ne 26 rfl (tgt := 52) rfl c1 (fun q2 => ?_) (fun q2 => ?_)
  · have h := h.1 q2
    refine v_iconst 31 rfl ?_
    refine v_istore 32 [1, 2, 3, 4, 5, 0] rfl (by decide) rfl ?_
    refine v_iconst 33 rfl ?_
    refine v_istore 34 [1, 2, 3, 4, 5, 6, 0] rfl (by decide) rfl ?_
    exact h
  · have h := h.2 q2
    refine v_aload_n 27 0 rfl rfl rfl ?_
    refine v_bipush 28 rfl (by decide) ?_
    refine v_callV (st := []) [I_ 11] 29 rfl lv12_174_fill_11 (al 53 rfl hn) (wk53 dy) (by decide) rfl (Nat.le_refl _) (Nat.le_refl _) ?_
    exact h
set_option maxHeartbeats 8000000 in
set_option maxRecDepth 4000 in
theorem bX12_fill_51 {d n : Nat} {dy : Nat → Shp} {g : Hp} {P : Pst} {x1 : Int} {x2 : Int} {x3 : Int} {x4 : Int} {xs0 : Int} (hn : 100 ≤ n) (h : P (some (I_ xs0)) n (W0 dy) g) : V miX12_fill (d + 1) 51 [(0, .ref 53), (1, I_ x1), (2, I_ x2), (3, I_ x3), (4, I_ x4)] [I_ xs0] n (W0 dy) g 0 0 P := by
  exact v_ret (v := some (I_ xs0)) 30 rfl (Nat.zero_le _) (Nat.zero_le _) trivial rfl h
set_option maxHeartbeats 8000000 in
set_option maxRecDepth 4000 in
theorem bX12_fill_58 {d n : Nat} {dy : Nat → Shp} {g : Hp} {P : Pst} {x1 : Int} {x2 : Int} {x3 : Int} {x4 : Int} {x5 : Int} {x6 : Int} (hn : 100 ≤ n) (h : (i3 x6) ∧ (i3 x3) ∧ ((x3 < x6) → P (some (I_ x5)) n (W0 dy) g) ∧ ((x6 ≤ x3) → V miX12_fill (d + 1) 79 [(0, .ref 53), (1, I_ x1), (2, I_ x2), (3, I_ x3), (4, I_ (xor3 x4 (shl3 1 x6))), (5, I_ ((-1))), (6, I_ x6), (7, I_ 0)] [] n (W0 dy) g 0 0 P)) : V miX12_fill (d + 1) 58 [(0, .ref 53), (1, I_ x1), (2, I_ x2), (3, I_ x3), (4, I_ x4), (5, I_ x5), (6, I_ x6)] [] n (W0 dy) g 0 0 P := by
  refine v_iload 35 6 rfl rfl ?_
  refine v_iload_n 36 3 rfl rfl rfl ?_
  have c1 := h.1
  have h := h.2
  have c2 := h.1
  have h := h.2
  refine v_icmp_gt 37 rfl (tgt := 176) rfl c1 c2 (fun q3 => ?_) (fun q3 => ?_)
  · have h := h.1 q3
    refine v_iload 98 5 rfl rfl ?_
    exact v_ret (v := some (I_ x5)) 99 rfl (Nat.zero_le _) (Nat.zero_le _) trivial rfl h
  · have h := h.2 q3
    refine v_iload 38 4 rfl rfl ?_
    refine v_iconst 39 rfl ?_
    refine v_iload 40 6 rfl rfl ?_
    refine v_ishl 41 rfl ?_
    refine v_ixor 42 rfl ?_
    refine v_istore 43 [1, 2, 3, 4, 0, 5, 6] rfl (by decide) rfl ?_
    refine v_iconst 44 rfl ?_
    refine v_istore 45 [1, 2, 3, 4, 5, 0, 6] rfl (by decide) rfl ?_
    refine v_iconst 46 rfl ?_
    refine v_istore 47 [1, 2, 3, 4, 5, 6, 7, 0] rfl (by decide) rfl ?_
    exact h
set_option maxHeartbeats 8000000 in
set_option maxRecDepth 4000 in
theorem bX12_fill_79 {d n : Nat} {dy : Nat → Shp} {g : Hp} {P : Pst} {x1 : Int} {x2 : Int} {x3 : Int} {x4 : Int} {x5 : Int} {x6 : Int} {x7 : Int} (hn : 100 ≤ n) (h : (i3 x7) ∧ (((g 53 41) ≤ x7) → V miX12_fill (d + 1) 170 [(0, .ref 53), (1, I_ x1), (2, I_ x2), (3, I_ x3), (4, I_ x4), (5, I_ x5), (6, I_ x6), (7, I_ x7)] [] n (W0 dy) g 0 0 P) ∧ ((x7 < (g 53 41)) → (i3 x5) ∧ ((0 ≤ x5) → V miX12_fill (d + 1) 170 [(0, .ref 53), (1, I_ x1), (2, I_ x2), (3, I_ x3), (4, I_ x4), (5, I_ x5), (6, I_ x6), (7, I_ x7)] [] n (W0 dy) g 0 0 P) ∧ ((x5 < 0) → (0 ≤ x7 ∧ x7 < 8) ∧ (0 ≤ x6 ∧ x6 < 10) ∧ (((g 89 x6.toNat) ≤ (g 88 x7.toNat)) → (i6 ((g 88 x7.toNat) - (g 89 x6.toNat))) ∧ Runs miX12_waysOf d [.ref 53, I_ x4] n (W0 dy) (up2 g 88 x7.toNat ((g 88 x7.toNat) - (g 89 x6.toNat))) (fun v n' S' g' => V miX12_fill (d + 1) 137 [(0, .ref 53), (1, I_ x1), (2, I_ x2), (3, I_ x3), (4, I_ x4), (5, I_ x5), (6, I_ x6), (7, I_ x7)] (v.toList ++ []) n' S' g' 0 0 P)) ∧ (((g 88 x7.toNat) < (g 89 x6.toNat)) → V miX12_fill (d + 1) 164 [(0, .ref 53), (1, I_ x1), (2, I_ x2), (3, I_ x3), (4, I_ x4), (5, I_ x5), (6, I_ x6), (7, I_ x7)] [] n (W0 dy) g 0 0 P)))) : V miX12_fill (d + 1) 79 [(0, .ref 53), (1, I_ x1), (2, I_ x2), (3, I_ x3), (4, I_ x4), (5, I_ x5), (6, I_ x6), (7, I_ x7)] [] n (W0 dy) g 0 0 P := by
  refine v_iload 48 7 rfl rfl ?_
  refine v_aload_n 49 0 rfl rfl rfl ?_
  refine v_gI 50 rfl fl12_340_11.r (al 53 rfl hn) (wk53 dy) (by decide) rfl (wc53_41 dy) (x := g 53 41) rfl ?_
  refine v_rng fun w1 => ?_
  have r2 : i3 (g 53 41) := rI w1 (q := 41) (al 53 rfl hn) (wk53 dy) rfl rfl
  have c3 := h.1
  have h := h.2
  refine v_icmp_ge 51 rfl (tgt := 170) rfl c3 r2 (fun q18 => ?_) (fun q18 => ?_)
  · have h := h.1 q18
    exact h
  · have h := h.2 q18
    refine v_iload 52 5 rfl rfl ?_
    have c4 := h.1
    have h := h.2
    refine v_if_ge 53 rfl (tgt := 170) rfl c4 (fun q17 => ?_) (fun q17 => ?_)
    · have h := h.1 q17
      exact h
    · have h := h.2 q17
      refine v_aload_n 54 0 rfl rfl rfl ?_
      refine v_gK 55 rfl fl12_115_11.r (al 53 rfl hn) (wk53 dy) (by decide) rfl (r := 88) (wc53_45 dy) ?_
      refine v_iload 56 7 rfl rfl ?_
      have c5 := h.1
      have h := h.2
      refine v_la (N := 8) 57 rfl (al 88 rfl hn) (wk88 dy) (wn88 dy) (by decide) c5 (y := g 88 x7.toNat) rfl ?_
      refine v_rng fun w6 => ?_
      have r7 : i6 (g 88 x7.toNat) := rL w6 (q := x7.toNat) (al 88 rfl hn) (wk88 dy) rfl rfl
      refine v_aload_n 58 0 rfl rfl rfl ?_
      refine v_gK 59 rfl fl12_118_11.r (al 53 rfl hn) (wk53 dy) (by decide) rfl (r := 89) (wc53_46 dy) ?_
      refine v_iload 60 6 rfl rfl ?_
      have c8 := h.1
      have h := h.2
      refine v_la (N := 10) 61 rfl (al 89 rfl hn) (wk89 dy) (wn89 dy) (by decide) c8 (y := g 89 x6.toNat) rfl ?_
      refine v_rng fun w9 => ?_
      have r10 : i6 (g 89 x6.toNat) := rL w9 (q := x6.toNat) (al 89 rfl hn) (wk89 dy) rfl rfl
      refine v_lif_ge 62 rfl rfl (tgt := 114) rfl r7 r10 (fun q16 => ?_) (fun q16 => ?_)
      · have h := h.1 q16
        refine v_aload_n 65 0 rfl rfl rfl ?_
        refine v_gK 66 rfl fl12_115_11.r (al 53 rfl hn) (wk53 dy) (by decide) rfl (r := 88) (wc53_45 dy) ?_
        refine v_iload 67 7 rfl rfl ?_
        refine v_dup2 68 rfl (by intro h; cases h) (by intro h; cases h) ?_
        refine v_la (N := 8) 69 rfl (al 88 rfl hn) (wk88 dy) (wn88 dy) (by decide) c5 (y := g 88 x7.toNat) rfl ?_
        refine v_rng fun w11 => ?_
        have r12 : i6 (g 88 x7.toNat) := rL w11 (q := x7.toNat) (al 88 rfl hn) (wk88 dy) rfl rfl
        refine v_aload_n 70 0 rfl rfl rfl ?_
        refine v_gK 71 rfl fl12_118_11.r (al 53 rfl hn) (wk53 dy) (by decide) rfl (r := 89) (wc53_46 dy) ?_
        refine v_iload 72 6 rfl rfl ?_
        refine v_la (N := 10) 73 rfl (al 89 rfl hn) (wk89 dy) (wn89 dy) (by decide) c8 (y := g 89 x6.toNat) rfl ?_
        refine v_rng fun w13 => ?_
        have r14 : i6 (g 89 x6.toNat) := rL w13 (q := x6.toNat) (al 89 rfl hn) (wk89 dy) rfl rfl
        refine v_lsub 74 rfl ?_
        have c15 := h.1
        have h := h.2
        refine v_last (N := 8) 75 rfl (al 88 rfl hn) (wk88 dy) (wn88 dy) (by decide) c5 c15 ?_
        refine v_aload_n 76 0 rfl rfl rfl ?_
        refine v_iload 77 4 rfl rfl ?_
        refine v_callV (st := []) [I_ x4] 78 rfl lv12_364_fill_11 (al 53 rfl hn) (wk53 dy) (by decide) rfl (Nat.le_refl _) (Nat.le_refl _) ?_
        exact h
      · have h := h.2 q16
        refine v_goto 64 rfl (tgt := 164) rfl ?_
        exact h
set_option maxHeartbeats 8000000 in
set_option maxRecDepth 4000 in
theorem bX12_fill_137 {d n : Nat} {dy : Nat → Shp} {g : Hp} {P : Pst} {x1 : Int} {x2 : Int} {x3 : Int} {x4 : Int} {x5 : Int} {x6 : Int} {x7 : Int} {xs0 : Int} (hn : 100 ≤ n) (h : (i3 xs0) ∧ ((xs0 ≤ 0) → (0 ≤ x7 ∧ x7 < 8) ∧ (0 ≤ x6 ∧ x6 < 10) ∧ (i6 ((g 88 x7.toNat) + (g 89 x6.toNat))) ∧ V miX12_fill (d + 1) 164 [(0, .ref 53), (1, I_ x1), (2, I_ x2), (3, I_ x3), (4, I_ x4), (5, I_ x5), (6, I_ x6), (7, I_ x7)] [] n (W0 dy) (up2 g 88 x7.toNat ((g 88 x7.toNat) + (g 89 x6.toNat))) 0 0 P) ∧ ((0 < xs0) → V miX12_fill (d + 1) 164 [(0, .ref 53), (1, I_ x1), (2, I_ x2), (3, I_ x3), (4, I_ x4), (5, I_ x7), (6, I_ x6), (7, I_ x7)] [] n (W0 dy) g 0 0 P)) : V miX12_fill (d + 1) 137 [(0, .ref 53), (1, I_ x1), (2, I_ x2), (3, I_ x3), (4, I_ x4), (5, I_ x5), (6, I_ x6), (7, I_ x7)] [I_ xs0] n (W0 dy) g 0 0 P := by
  have c1 := h.1
  have h := h.2
  refine v_if_le 79 rfl (tgt := 147) rfl c1 (fun q9 => ?_) (fun q9 => ?_)
  · have h := h.1 q9
    refine v_aload_n 83 0 rfl rfl rfl ?_
    refine v_gK 84 rfl fl12_115_11.r (al 53 rfl hn) (wk53 dy) (by decide) rfl (r := 88) (wc53_45 dy) ?_
    refine v_iload 85 7 rfl rfl ?_
    refine v_dup2 86 rfl (by intro h; cases h) (by intro h; cases h) ?_
    have c2 := h.1
    have h := h.2
    refine v_la (N := 8) 87 rfl (al 88 rfl hn) (wk88 dy) (wn88 dy) (by decide) c2 (y := g 88 x7.toNat) rfl ?_
    refine v_rng fun w3 => ?_
    have r4 : i6 (g 88 x7.toNat) := rL w3 (q := x7.toNat) (al 88 rfl hn) (wk88 dy) rfl rfl
    refine v_aload_n 88 0 rfl rfl rfl ?_
    refine v_gK 89 rfl fl12_118_11.r (al 53 rfl hn) (wk53 dy) (by decide) rfl (r := 89) (wc53_46 dy) ?_
    refine v_iload 90 6 rfl rfl ?_
    have c5 := h.1
    have h := h.2
    refine v_la (N := 10) 91 rfl (al 89 rfl hn) (wk89 dy) (wn89 dy) (by decide) c5 (y := g 89 x6.toNat) rfl ?_
    refine v_rng fun w6 => ?_
    have r7 : i6 (g 89 x6.toNat) := rL w6 (q := x6.toNat) (al 89 rfl hn) (wk89 dy) rfl rfl
    refine v_ladd 92 rfl ?_
    have c8 := h.1
    have h := h.2
    refine v_last (N := 8) 93 rfl (al 88 rfl hn) (wk88 dy) (wn88 dy) (by decide) c2 c8 ?_
    exact h
  · have h := h.2 q9
    refine v_iload 80 7 rfl rfl ?_
    refine v_istore 81 [1, 2, 3, 4, 5, 0, 6, 7] rfl (by decide) rfl ?_
    refine v_goto 82 rfl (tgt := 164) rfl ?_
    exact h
set_option maxHeartbeats 8000000 in
set_option maxRecDepth 4000 in
theorem bX12_fill_164 {d n : Nat} {dy : Nat → Shp} {g : Hp} {P : Pst} {x1 : Int} {x2 : Int} {x3 : Int} {x4 : Int} {x5 : Int} {x6 : Int} {x7 : Int} (hn : 100 ≤ n) (h : V miX12_fill (d + 1) 79 [(0, .ref 53), (1, I_ x1), (2, I_ x2), (3, I_ x3), (4, I_ x4), (5, I_ x5), (6, I_ x6), (7, I_ (x7 + 1))] [] n (W0 dy) g 0 0 P) : V miX12_fill (d + 1) 164 [(0, .ref 53), (1, I_ x1), (2, I_ x2), (3, I_ x3), (4, I_ x4), (5, I_ x5), (6, I_ x6), (7, I_ x7)] [] n (W0 dy) g 0 0 P := by
  refine v_iinc 94 7 [1, 2, 3, 4, 5, 6, 7, 0] rfl rfl (by decide) rfl ?_
  refine v_goto 95 rfl (tgt := 79) rfl ?_
  exact h
set_option maxHeartbeats 8000000 in
set_option maxRecDepth 4000 in
theorem bX12_fill_170 {d n : Nat} {dy : Nat → Shp} {g : Hp} {P : Pst} {x1 : Int} {x2 : Int} {x3 : Int} {x4 : Int} {x5 : Int} {x6 : Int} {x7 : Int} (hn : 100 ≤ n) (h : V miX12_fill (d + 1) 58 [(0, .ref 53), (1, I_ x1), (2, I_ x2), (3, I_ x3), (4, I_ x4), (5, I_ x5), (6, I_ (x6 + 1))] [] n (W0 dy) g 0 0 P) : V miX12_fill (d + 1) 170 [(0, .ref 53), (1, I_ x1), (2, I_ x2), (3, I_ x3), (4, I_ x4), (5, I_ x5), (6, I_ x6), (7, I_ x7)] [] n (W0 dy) g 0 0 P := by
  refine v_iinc 96 6 [1, 2, 3, 4, 5, 6, 0, 7] rfl rfl (by decide) rfl ?_
  refine v_goto 97 rfl (tgt := 58) rfl ?_
  refine v_loc [0, 1, 2, 3, 4, 5, 6] rfl ?_
  exact h
theorem fl12_139_11 : FL RX12 139 11 54 true (.array .int) := ⟨RX12, TX12, 58, "MobileMakerModel", rfl, rfl, by decide, kf11, tbG_in (List.mem_append_right _ (List.mem_of_getElem? (i := 1181) (by decide +kernel))) rfl, Or.inl rfl, rfl, by decide +kernel, ⟨tyX12, tyX12_ok⟩, nmX12, fun _ => rfl⟩
theorem fl12_372_11 : FL RX12 372 11 26 false .int := ⟨RX12, TX12, 58, "MobileMakerModel", rfl, rfl, by decide, kf11, tbG_in (List.mem_append_right _ (List.mem_of_getElem? (i := 1153) (by decide +kernel))) rfl, Or.inl rfl, rfl, by decide +kernel, ⟨tyX12, tyX12_ok⟩, nmX12, fun h => by cases h⟩
theorem fl12_81_11 : FL RX12 81 11 27 true (.array .int) := ⟨RX12, TX12, 58, "MobileMakerModel", rfl, rfl, by decide, kf11, tbG_in (List.mem_append_right _ (List.mem_of_getElem? (i := 1154) (by decide +kernel))) rfl, Or.inl rfl, rfl, by decide +kernel, ⟨tyX12, tyX12_ok⟩, nmX12, fun _ => rfl⟩
theorem lv12_222_fewest_11 : LkV miX12_fewest miX12_isPart 222 1 11 := ⟨⟨⟨tbG_in (List.mem_append_right _ (List.mem_of_getElem? (i := 1400) (by decide +kernel))) rfl, tbG_in (List.mem_append_right _ (List.mem_of_getElem? (i := 9) (by decide +kernel))) rfl, tbG_in (List.mem_append_right _ (List.mem_of_getElem? (i := 1397) (by decide +kernel))) rfl⟩, ⟨by decide +kernel, by decide +kernel, by decide +kernel⟩, by decide⟩, tbG_in (List.mem_append_right _ (List.mem_of_getElem? (i := 1399) (by decide +kernel))) rfl, RX12, TX12, 58, rfl, tbG_in (List.mem_append_left _ (List.mem_of_getElem? (i := 56) (by decide +kernel))) rfl⟩
theorem lv12_237_fewest_11 : LkV miX12_fewest miX12_isRod 237 1 11 := ⟨⟨⟨tbG_in (List.mem_append_right _ (List.mem_of_getElem? (i := 1428) (by decide +kernel))) rfl, tbG_in (List.mem_append_right _ (List.mem_of_getElem? (i := 9) (by decide +kernel))) rfl, tbG_in (List.mem_append_right _ (List.mem_of_getElem? (i := 1425) (by decide +kernel))) rfl⟩, ⟨by decide +kernel, by decide +kernel, by decide +kernel⟩, by decide⟩, tbG_in (List.mem_append_right _ (List.mem_of_getElem? (i := 1427) (by decide +kernel))) rfl, RX12, TX12, 58, rfl, tbG_in (List.mem_append_left _ (List.mem_of_getElem? (i := 60) (by decide +kernel))) rfl⟩
theorem lv12_174_fewest_11 : LkV miX12_fewest miX12_refuse 174 1 11 := ⟨⟨⟨tbG_in (List.mem_append_right _ (List.mem_of_getElem? (i := 1351) (by decide +kernel))) rfl, tbG_in (List.mem_append_right _ (List.mem_of_getElem? (i := 9) (by decide +kernel))) rfl, tbG_in (List.mem_append_right _ (List.mem_of_getElem? (i := 1348) (by decide +kernel))) rfl⟩, ⟨by decide +kernel, by decide +kernel, by decide +kernel⟩, by decide⟩, tbG_in (List.mem_append_right _ (List.mem_of_getElem? (i := 1350) (by decide +kernel))) rfl, RX12, TX12, 58, rfl, tbG_in (List.mem_append_left _ (List.mem_of_getElem? (i := 50) (by decide +kernel))) rfl⟩
theorem lv12_268_fewest_11 : LkV miX12_fewest miX12_allThere 268 0 11 := ⟨⟨⟨tbG_in (List.mem_append_right _ (List.mem_of_getElem? (i := 1465) (by decide +kernel))) rfl, tbG_in (List.mem_append_right _ (List.mem_of_getElem? (i := 9) (by decide +kernel))) rfl, tbG_in (List.mem_append_right _ (List.mem_of_getElem? (i := 1462) (by decide +kernel))) rfl⟩, ⟨by decide +kernel, by decide +kernel, by decide +kernel⟩, by decide⟩, tbG_in (List.mem_append_right _ (List.mem_of_getElem? (i := 1464) (by decide +kernel))) rfl, RX12, TX12, 58, rfl, tbG_in (List.mem_append_left _ (List.mem_of_getElem? (i := 63) (by decide +kernel))) rfl⟩
theorem lv12_277_fewest_11 : LkV miX12_fewest miX12_marks 277 1 11 := ⟨⟨⟨tbG_in (List.mem_append_right _ (List.mem_of_getElem? (i := 1505) (by decide +kernel))) rfl, tbG_in (List.mem_append_right _ (List.mem_of_getElem? (i := 9) (by decide +kernel))) rfl, tbG_in (List.mem_append_right _ (List.mem_of_getElem? (i := 1502) (by decide +kernel))) rfl⟩, ⟨by decide +kernel, by decide +kernel, by decide +kernel⟩, by decide⟩, tbG_in (List.mem_append_right _ (List.mem_of_getElem? (i := 1504) (by decide +kernel))) rfl, RX12, TX12, 58, rfl, tbG_in (List.mem_append_left _ (List.mem_of_getElem? (i := 71) (by decide +kernel))) rfl⟩
theorem lv12_280_fewest_11 : LkV miX12_fewest miX12_wrongRods 280 0 11 := ⟨⟨⟨tbG_in (List.mem_append_right _ (List.mem_of_getElem? (i := 1509) (by decide +kernel))) rfl, tbG_in (List.mem_append_right _ (List.mem_of_getElem? (i := 9) (by decide +kernel))) rfl, tbG_in (List.mem_append_right _ (List.mem_of_getElem? (i := 1506) (by decide +kernel))) rfl⟩, ⟨by decide +kernel, by decide +kernel, by decide +kernel⟩, by decide⟩, tbG_in (List.mem_append_right _ (List.mem_of_getElem? (i := 1508) (by decide +kernel))) rfl, RX12, TX12, 58, rfl, tbG_in (List.mem_append_left _ (List.mem_of_getElem? (i := 72) (by decide +kernel))) rfl⟩
theorem ls12_367_fewest : LkS miX12_fewest miJ6_bitCount_0f7a4 367 1 := ⟨⟨⟨tbG_in (List.mem_append_right _ (List.mem_of_getElem? (i := 1629) (by decide +kernel))) rfl, tbG_in (List.mem_append_right _ (List.mem_of_getElem? (i := 16) (by decide +kernel))) rfl, tbG_in (List.mem_append_right _ (List.mem_of_getElem? (i := 1627) (by decide +kernel))) rfl⟩, ⟨by decide +kernel, by decide +kernel, by decide +kernel⟩, by decide⟩, tbG_in (List.mem_append_right _ (List.mem_of_getElem? (i := 1628) (by decide +kernel))) rfl⟩
theorem lv12_255_fewest_11 : LkV miX12_fewest miX12_loads 255 0 11 := ⟨⟨⟨tbG_in (List.mem_append_right _ (List.mem_of_getElem? (i := 1473) (by decide +kernel))) rfl, tbG_in (List.mem_append_right _ (List.mem_of_getElem? (i := 9) (by decide +kernel))) rfl, tbG_in (List.mem_append_right _ (List.mem_of_getElem? (i := 1470) (by decide +kernel))) rfl⟩, ⟨by decide +kernel, by decide +kernel, by decide +kernel⟩, by decide⟩, tbG_in (List.mem_append_right _ (List.mem_of_getElem? (i := 1472) (by decide +kernel))) rfl, RX12, TX12, 58, rfl, tbG_in (List.mem_append_left _ (List.mem_of_getElem? (i := 65) (by decide +kernel))) rfl⟩
set_option maxHeartbeats 8000000 in
set_option maxRecDepth 4000 in
theorem bX12_fewest_0 {d n : Nat} {dy : Nat → Shp} {g : Hp} {P : Pst} {x1 : Int} {x2 : Int} (hn : 100 ≤ n) (h : Runs miX12_isPart d [.ref 53, I_ x1] n (W0 dy) (up2 (up2 g 53 1 0) 53 0 0) (fun v n' S' g' => V miX12_fewest (d + 1) 15 [(0, .ref 53), (1, I_ x1), (2, I_ x2)] (v.toList ++ []) n' S' g' 0 0 P)) : V miX12_fewest (d + 1) 0 [(0, .ref 53), (1, I_ x1), (2, I_ x2)] [] n (W0 dy) g 0 0 P := by
  refine v_aload_n 0 0 rfl rfl rfl ?_
  refine v_iconst 1 rfl ?_
  refine v_putI 2 rfl fl12_148_11 (al 53 rfl hn) (wk53 dy) (by decide) rfl (wc53_1 dy) (by decide) ?_
  refine v_aload_n 3 0 rfl rfl rfl ?_
  refine v_iconst 4 rfl ?_
  refine v_putI 5 rfl fl12_152_11 (al 53 rfl hn) (wk53 dy) (by decide) rfl (wc53_0 dy) (by decide) ?_
  refine v_aload_n 6 0 rfl rfl rfl ?_
  refine v_iload_n 7 1 rfl rfl rfl ?_
  refine v_callV (st := []) [I_ x1] 8 rfl lv12_222_fewest_11 (al 53 rfl hn) (wk53 dy) (by decide) rfl (Nat.le_refl _) (Nat.le_refl _) ?_
  exact h
set_option maxHeartbeats 8000000 in
set_option maxRecDepth 4000 in
theorem bX12_fewest_15 {d n : Nat} {dy : Nat → Shp} {g : Hp} {P : Pst} {x1 : Int} {x2 : Int} {xs0 : Int} (hn : 100 ≤ n) (h : (i3 xs0) ∧ ((xs0 ≠ 0) → Runs miX12_isRod d [.ref 53, I_ x1] n (W0 dy) g (fun v n' S' g' => V miX12_fewest (d + 1) 29 [(0, .ref 53), (1, I_ x1), (2, I_ x2)] (v.toList ++ []) n' S' g' 0 0 P)) ∧ ((xs0 = 0) → Runs miX12_refuse d [.ref 53, I_ 2] n (W0 dy) g (fun v n' S' g' => V miX12_fewest (d + 1) 23 [(0, .ref 53), (1, I_ x1), (2, I_ x2)] (v.toList ++ []) n' S' g' 0 0 P))) : V miX12_fewest (d + 1) 15 [(0, .ref 53), (1, I_ x1), (2, I_ x2)] [I_ xs0] n (W0 dy) g 0 0 P := by
  have c1 := h.1
  have h := h.2
  refine v_if_ne 9 rfl (tgt := 24) rfl c1 (fun q2 => ?_) (fun q2 => ?_)
  · have h := h.1 q2
    refine v_aload_n 14 0 rfl rfl rfl ?_
    refine v_iload_n 15 1 rfl rfl rfl ?_
    refine v_callV (st := []) [I_ x1] 16 rfl lv12_237_fewest_11 (al 53 rfl hn) (wk53 dy) (by decide) rfl (Nat.le_refl _) (Nat.le_refl _) ?_
    exact h
  · have h := h.2 q2
    refine v_aload_n 10 0 rfl rfl rfl ?_
    refine v_iconst 11 rfl ?_
    refine v_callV (st := []) [I_ 2] 12 rfl lv12_174_fewest_11 (al 53 rfl hn) (wk53 dy) (by decide) rfl (Nat.le_refl _) (Nat.le_refl _) ?_
    exact h
set_option maxHeartbeats 8000000 in
set_option maxRecDepth 4000 in
theorem bX12_fewest_23 {d n : Nat} {dy : Nat → Shp} {g : Hp} {P : Pst} {x1 : Int} {x2 : Int} {xs0 : Int} (hn : 100 ≤ n) (h : P (some (I_ xs0)) n (W0 dy) g) : V miX12_fewest (d + 1) 23 [(0, .ref 53), (1, I_ x1), (2, I_ x2)] [I_ xs0] n (W0 dy) g 0 0 P := by
  exact v_ret (v := some (I_ xs0)) 13 rfl (Nat.zero_le _) (Nat.zero_le _) trivial rfl h
set_option maxHeartbeats 8000000 in
set_option maxRecDepth 4000 in
theorem bX12_fewest_29 {d n : Nat} {dy : Nat → Shp} {g : Hp} {P : Pst} {x1 : Int} {x2 : Int} {xs0 : Int} (hn : 100 ≤ n) (h : (i3 xs0) ∧ ((xs0 ≠ 0) → (i3 x2) ∧ ((x2 < 0) → V miX12_fewest (d + 1) 48 [(0, .ref 53), (1, I_ x1), (2, I_ x2)] [] n (W0 dy) g 0 0 P) ∧ ((0 ≤ x2) → ((x2 ≤ 14) → (0 ≤ x1 ∧ x1 < 60) ∧ (((g 60 x1.toNat) < 0) → Runs miX12_allThere d [.ref 53] n (W0 dy) g (fun v n' S' g' => V miX12_fewest (d + 1) 75 [(0, .ref 53), (1, I_ x1), (2, I_ x2)] (v.toList ++ []) n' S' g' 0 0 P)) ∧ ((0 ≤ (g 60 x1.toNat)) → Runs miX12_refuse d [.ref 53, I_ 8] n (W0 dy) g (fun v n' S' g' => V miX12_fewest (d + 1) 70 [(0, .ref 53), (1, I_ x1), (2, I_ x2)] (v.toList ++ []) n' S' g' 0 0 P))) ∧ ((14 < x2) → V miX12_fewest (d + 1) 48 [(0, .ref 53), (1, I_ x1), (2, I_ x2)] [] n (W0 dy) g 0 0 P))) ∧ ((xs0 = 0) → Runs miX12_refuse d [.ref 53, I_ 5] n (W0 dy) g (fun v n' S' g' => V miX12_fewest (d + 1) 37 [(0, .ref 53), (1, I_ x1), (2, I_ x2)] (v.toList ++ []) n' S' g' 0 0 P))) : V miX12_fewest (d + 1) 29 [(0, .ref 53), (1, I_ x1), (2, I_ x2)] [I_ xs0] n (W0 dy) g 0 0 P := by
  have c1 := h.1
  have h := h.2
  refine v_if_ne 17 rfl (tgt := 38) rfl c1 (fun q9 => ?_) (fun q9 => ?_)
  · have h := h.1 q9
    refine v_iload_n 22 2 rfl rfl rfl ?_
    have c2 := h.1
    have h := h.2
    refine v_if_lt 23 rfl (tgt := 48) rfl c2 (fun q8 => ?_) (fun q8 => ?_)
    · have h := h.1 q8
      exact h
    · have h := h.2 q8
      refine v_iload_n 24 2 rfl rfl rfl ?_
      refine v_bipush 25 rfl (by decide) ?_
      refine v_icmp_le 26 rfl (tgt := 55) rfl c2 (by decide) (fun q7 => ?_) (fun q7 => ?_)
      · have h := h.1 q7
        refine v_aload_n 31 0 rfl rfl rfl ?_
        refine v_gK 32 rfl fl12_29_11.r (al 53 rfl hn) (wk53 dy) (by decide) rfl (r := 60) (wc53_9 dy) ?_
        refine v_iload_n 33 1 rfl rfl rfl ?_
        have c3 := h.1
        have h := h.2
        refine v_ia (N := 60) 34 rfl (al 60 rfl hn) (wk60 dy) (wn60 dy) (by decide) c3 (y := g 60 x1.toNat) rfl ?_
        refine v_rng fun w4 => ?_
        have r5 : i3 (g 60 x1.toNat) := rI w4 (q := x1.toNat) (al 60 rfl hn) (wk60 dy) rfl rfl
        refine v_if_lt 35 rfl (tgt := 71) rfl r5 (fun q6 => ?_) (fun q6 => ?_)
        · have h := h.1 q6
          refine v_aload_n 40 0 rfl rfl rfl ?_
          refine v_callV (st := []) [] 41 rfl lv12_268_fewest_11 (al 53 rfl hn) (wk53 dy) (by decide) rfl (Nat.le_refl _) (Nat.le_refl _) ?_
          exact h
        · have h := h.2 q6
          refine v_aload_n 36 0 rfl rfl rfl ?_
          refine v_bipush 37 rfl (by decide) ?_
          refine v_callV (st := []) [I_ 8] 38 rfl lv12_174_fewest_11 (al 53 rfl hn) (wk53 dy) (by decide) rfl (Nat.le_refl _) (Nat.le_refl _) ?_
          exact h
      · have h := h.2 q7
        exact h
  · have h := h.2 q9
    refine v_aload_n 18 0 rfl rfl rfl ?_
    refine v_iconst 19 rfl ?_
    refine v_callV (st := []) [I_ 5] 20 rfl lv12_174_fewest_11 (al 53 rfl hn) (wk53 dy) (by decide) rfl (Nat.le_refl _) (Nat.le_refl _) ?_
    exact h
set_option maxHeartbeats 8000000 in
set_option maxRecDepth 4000 in
theorem bX12_fewest_37 {d n : Nat} {dy : Nat → Shp} {g : Hp} {P : Pst} {x1 : Int} {x2 : Int} {xs0 : Int} (hn : 100 ≤ n) (h : P (some (I_ xs0)) n (W0 dy) g) : V miX12_fewest (d + 1) 37 [(0, .ref 53), (1, I_ x1), (2, I_ x2)] [I_ xs0] n (W0 dy) g 0 0 P := by
  exact v_ret (v := some (I_ xs0)) 21 rfl (Nat.zero_le _) (Nat.zero_le _) trivial rfl h
set_option maxHeartbeats 8000000 in
set_option maxRecDepth 4000 in
theorem bX12_fewest_48 {d n : Nat} {dy : Nat → Shp} {g : Hp} {P : Pst} {x1 : Int} {x2 : Int} (hn : 100 ≤ n) (h : Runs miX12_refuse d [.ref 53, I_ 7] n (W0 dy) g (fun v n' S' g' => V miX12_fewest (d + 1) 54 [(0, .ref 53), (1, I_ x1), (2, I_ x2)] (v.toList ++ []) n' S' g' 0 0 P)) : V miX12_fewest (d + 1) 48 [(0, .ref 53), (1, I_ x1), (2, I_ x2)] [] n (W0 dy) g 0 0 P := by
  refine v_aload_n 27 0 rfl rfl rfl ?_
  refine v_bipush 28 rfl (by decide) ?_
  refine v_callV (st := []) [I_ 7] 29 rfl lv12_174_fewest_11 (al 53 rfl hn) (wk53 dy) (by decide) rfl (Nat.le_refl _) (Nat.le_refl _) ?_
  exact h
set_option maxHeartbeats 8000000 in
set_option maxRecDepth 4000 in
theorem bX12_fewest_54 {d n : Nat} {dy : Nat → Shp} {g : Hp} {P : Pst} {x1 : Int} {x2 : Int} {xs0 : Int} (hn : 100 ≤ n) (h : P (some (I_ xs0)) n (W0 dy) g) : V miX12_fewest (d + 1) 54 [(0, .ref 53), (1, I_ x1), (2, I_ x2)] [I_ xs0] n (W0 dy) g 0 0 P := by
  exact v_ret (v := some (I_ xs0)) 30 rfl (Nat.zero_le _) (Nat.zero_le _) trivial rfl h
set_option maxHeartbeats 8000000 in
set_option maxRecDepth 4000 in
theorem bX12_fewest_70 {d n : Nat} {dy : Nat → Shp} {g : Hp} {P : Pst} {x1 : Int} {x2 : Int} {xs0 : Int} (hn : 100 ≤ n) (h : P (some (I_ xs0)) n (W0 dy) g) : V miX12_fewest (d + 1) 70 [(0, .ref 53), (1, I_ x1), (2, I_ x2)] [I_ xs0] n (W0 dy) g 0 0 P := by
  exact v_ret (v := some (I_ xs0)) 39 rfl (Nat.zero_le _) (Nat.zero_le _) trivial rfl h
set_option maxHeartbeats 8000000 in
set_option maxRecDepth 4000 in
theorem bX12_fewest_75 {d n : Nat} {dy : Nat → Shp} {g : Hp} {P : Pst} {x1 : Int} {x2 : Int} (hn : 100 ≤ n) (h : Runs miX12_marks d [.ref 53, I_ x1] n (W0 dy) g (fun v n' S' g' => V miX12_fewest (d + 1) 80 [(0, .ref 53), (1, I_ x1), (2, I_ x2)] (v.toList ++ []) n' S' g' 0 0 P)) : V miX12_fewest (d + 1) 75 [(0, .ref 53), (1, I_ x1), (2, I_ x2)] [] n (W0 dy) g 0 0 P := by
  refine v_aload_n 42 0 rfl rfl rfl ?_
  refine v_iload_n 43 1 rfl rfl rfl ?_
  refine v_callV (st := []) [I_ x1] 44 rfl lv12_277_fewest_11 (al 53 rfl hn) (wk53 dy) (by decide) rfl (Nat.le_refl _) (Nat.le_refl _) ?_
  exact h
set_option maxHeartbeats 8000000 in
set_option maxRecDepth 4000 in
theorem bX12_fewest_80 {d n : Nat} {dy : Nat → Shp} {g : Hp} {P : Pst} {x1 : Int} {x2 : Int} (hn : 100 ≤ n) (h : Runs miX12_wrongRods d [.ref 53] n (W0 dy) g (fun v n' S' g' => V miX12_fewest (d + 1) 84 [(0, .ref 53), (1, I_ x1), (2, I_ x2)] (v.toList ++ []) n' S' g' 0 0 P)) : V miX12_fewest (d + 1) 80 [(0, .ref 53), (1, I_ x1), (2, I_ x2)] [] n (W0 dy) g 0 0 P := by
  refine v_aload_n 45 0 rfl rfl rfl ?_
  refine v_callV (st := []) [] 46 rfl lv12_280_fewest_11 (al 53 rfl hn) (wk53 dy) (by decide) rfl (Nat.le_refl _) (Nat.le_refl _) ?_
  exact h
set_option maxHeartbeats 8000000 in
set_option maxRecDepth 4000 in
theorem bX12_fewest_84 {d n : Nat} {dy : Nat → Shp} {g : Hp} {P : Pst} {x1 : Int} {x2 : Int} {xs0 : Int} (hn : 100 ≤ n) (h : (i3 xs0) ∧ ((xs0 ≤ 0) → V miX12_fewest (d + 1) 99 [(0, .ref 53), (1, I_ x1), (2, I_ x2), (3, I_ 0), (4, I_ 0)] [] n (W0 dy) g 0 0 P) ∧ ((0 < xs0) → Runs miX12_refuse d [.ref 53, I_ 9] n (W0 dy) g (fun v n' S' g' => V miX12_fewest (d + 1) 93 [(0, .ref 53), (1, I_ x1), (2, I_ x2)] (v.toList ++ []) n' S' g' 0 0 P))) : V miX12_fewest (d + 1) 84 [(0, .ref 53), (1, I_ x1), (2, I_ x2)] [I_ xs0] n (W0 dy) g 0 0 P := by
  have c1 := h.1
  have h := h.2
  refine v_if_le 47 rfl (tgt := 94) rfl c1 (fun q2 => ?_) (fun q2 => ?_)
  · have h := h.1 q2
    refine v_iconst 52 rfl ?_
    refine v_istore_n 53 [1, 2, 3, 0] rfl rfl (by decide) rfl ?_
    refine v_iconst 54 rfl ?_
    refine v_istore 55 [1, 2, 3, 4, 0] rfl (by decide) rfl ?_
    exact h
  · have h := h.2 q2
    refine v_aload_n 48 0 rfl rfl rfl ?_
    refine v_bipush 49 rfl (by decide) ?_
    refine v_callV (st := []) [I_ 9] 50 rfl lv12_174_fewest_11 (al 53 rfl hn) (wk53 dy) (by decide) rfl (Nat.le_refl _) (Nat.le_refl _) ?_
    exact h
set_option maxHeartbeats 8000000 in
set_option maxRecDepth 4000 in
theorem bX12_fewest_93 {d n : Nat} {dy : Nat → Shp} {g : Hp} {P : Pst} {x1 : Int} {x2 : Int} {xs0 : Int} (hn : 100 ≤ n) (h : P (some (I_ xs0)) n (W0 dy) g) : V miX12_fewest (d + 1) 93 [(0, .ref 53), (1, I_ x1), (2, I_ x2)] [I_ xs0] n (W0 dy) g 0 0 P := by
  exact v_ret (v := some (I_ xs0)) 51 rfl (Nat.zero_le _) (Nat.zero_le _) trivial rfl h
set_option maxHeartbeats 8000000 in
set_option maxRecDepth 4000 in
theorem bX12_fewest_99 {d n : Nat} {dy : Nat → Shp} {g : Hp} {P : Pst} {x1 : Int} {x2 : Int} {x3 : Int} {x4 : Int} (hn : 100 ≤ n) (h : (i3 x4) ∧ (((g 53 5) ≤ x4) → (i3 x3) ∧ ((x3 ≤ 14) → V miX12_fewest (d + 1) 172 [(0, .ref 53), (1, I_ x1), (2, I_ x2), (3, I_ x3), (4, I_ ((-1))), (5, I_ ((shl3 1 x3) - 1))] [] n (W0 dy) g 0 0 P) ∧ ((14 < x3) → Runs miX12_refuse d [.ref 53, I_ 10] n (W0 dy) g (fun v n' S' g' => V miX12_fewest (d + 1) 161 [(0, .ref 53), (1, I_ x1), (2, I_ x2), (3, I_ x3), (4, I_ x4)] (v.toList ++ []) n' S' g' 0 0 P))) ∧ ((x4 < (g 53 5)) → (0 ≤ x4 ∧ x4 < 60) ∧ (((g 75 x4.toNat) = 0) → V miX12_fewest (d + 1) 143 [(0, .ref 53), (1, I_ x1), (2, I_ x2), (3, I_ x3), (4, I_ x4)] [] n (W0 dy) g 0 0 P) ∧ (((g 75 x4.toNat) ≠ 0) → (((g 57 x4.toNat) = 1) → (0 ≤ x3 ∧ x3 < 60) ∧ V miX12_fewest (d + 1) 143 [(0, .ref 53), (1, I_ x1), (2, I_ x2), (3, I_ (x3 + 1)), (4, I_ x4)] [] n (W0 dy) (up2 g 96 x3.toNat x4) 0 0 P) ∧ (((g 57 x4.toNat) ≠ 1) → V miX12_fewest (d + 1) 143 [(0, .ref 53), (1, I_ x1), (2, I_ x2), (3, I_ x3), (4, I_ x4)] [] n (W0 dy) g 0 0 P)))) : V miX12_fewest (d + 1) 99 [(0, .ref 53), (1, I_ x1), (2, I_ x2), (3, I_ x3), (4, I_ x4)] [] n (W0 dy) g 0 0 P := by
  refine v_iload 56 4 rfl rfl ?_
  refine v_aload_n 57 0 rfl rfl rfl ?_
  refine v_gI 58 rfl fl12_169_11.r (al 53 rfl hn) (wk53 dy) (by decide) rfl (wc53_5 dy) (x := g 53 5) rfl ?_
  refine v_rng fun w1 => ?_
  have r2 : i3 (g 53 5) := rI w1 (q := 5) (al 53 rfl hn) (wk53 dy) rfl rfl
  have c3 := h.1
  have h := h.2
  refine v_icmp_ge 59 rfl (tgt := 149) rfl c3 r2 (fun q14 => ?_) (fun q14 => ?_)
  · have h := h.1 q14
    refine v_iload_n 80 3 rfl rfl rfl ?_
    refine v_bipush 81 rfl (by decide) ?_
    have c4 := h.1
    have h := h.2
    refine v_icmp_le 82 rfl (tgt := 162) rfl c4 (by decide) (fun q5 => ?_) (fun q5 => ?_)
    · have h := h.1 q5
      refine v_iconst 87 rfl ?_
      refine v_istore 88 [1, 2, 3, 4, 0] rfl (by decide) rfl ?_
      refine v_iconst 89 rfl ?_
      refine v_iload_n 90 3 rfl rfl rfl ?_
      refine v_ishl 91 rfl ?_
      refine v_iconst 92 rfl ?_
      refine v_isub 93 rfl ?_
      refine v_istore 94 [1, 2, 3, 4, 5, 0] rfl (by decide) rfl ?_
      exact h
    · have h := h.2 q5
      refine v_aload_n 83 0 rfl rfl rfl ?_
      refine v_bipush 84 rfl (by decide) ?_
      refine v_callV (st := []) [I_ 10] 85 rfl lv12_174_fewest_11 (al 53 rfl hn) (wk53 dy) (by decide) rfl (Nat.le_refl _) (Nat.le_refl _) ?_
      exact h
  · have h := h.2 q14
    refine v_aload_n 60 0 rfl rfl rfl ?_
    refine v_gK 61 rfl fl12_74_11.r (al 53 rfl hn) (wk53 dy) (by decide) rfl (r := 75) (wc53_24 dy) ?_
    refine v_iload 62 4 rfl rfl ?_
    have c6 := h.1
    have h := h.2
    refine v_za (N := 60) 63 rfl (al 75 rfl hn) (wk75 dy) (wn75 dy) (by decide) c6 (y := g 75 x4.toNat) rfl ?_
    refine v_rng fun w7 => ?_
    have r8 : i3 (g 75 x4.toNat) := rI w7 (q := x4.toNat) (al 75 rfl hn) (wk75 dy) rfl rfl
    refine v_if_eq 64 rfl (tgt := 143) rfl r8 (fun q13 => ?_) (fun q13 => ?_)
    · have h := h.1 q13
      exact h
    · have h := h.2 q13
      refine v_aload_n 65 0 rfl rfl rfl ?_
      refine v_gK 66 rfl fl12_20_11.r (al 53 rfl hn) (wk53 dy) (by decide) rfl (r := 57) (wc53_6 dy) ?_
      refine v_iload 67 4 rfl rfl ?_
      refine v_ia (N := 60) 68 rfl (al 57 rfl hn) (wk57 dy) (wn57 dy) (by decide) c6 (y := g 57 x4.toNat) rfl ?_
      refine v_rng fun w9 => ?_
      have r10 : i3 (g 57 x4.toNat) := rI w9 (q := x4.toNat) (al 57 rfl hn) (wk57 dy) rfl rfl
      refine v_iconst 69 rfl ?_
      refine v_icmp_eq 70 rfl (tgt := 132) rfl r10 (by decide) (fun q12 => ?_) (fun q12 => ?_)
      · have h := h.1 q12
        refine v_aload_n 72 0 rfl rfl rfl ?_
        refine v_gK 73 rfl fl12_139_11.r (al 53 rfl hn) (wk53 dy) (by decide) rfl (r := 96) (wc53_54 dy) ?_
        refine v_iload_n 74 3 rfl rfl rfl ?_
        refine v_iload 75 4 rfl rfl ?_
        have c11 := h.1
        have h := h.2
        refine v_iast (N := 60) 76 rfl (al 96 rfl hn) (wk96 dy) (wn96 dy) (by decide) c11 c3 ?_
        refine v_iinc 77 3 [1, 2, 3, 0, 4] rfl rfl (by decide) rfl ?_
        exact h
      · have h := h.2 q12
        refine v_goto 71 rfl (tgt := 143) rfl ?_
        exact h
set_option maxHeartbeats 8000000 in
set_option maxRecDepth 4000 in
theorem bX12_fewest_143 {d n : Nat} {dy : Nat → Shp} {g : Hp} {P : Pst} {x1 : Int} {x2 : Int} {x3 : Int} {x4 : Int} (hn : 100 ≤ n) (h : V miX12_fewest (d + 1) 99 [(0, .ref 53), (1, I_ x1), (2, I_ x2), (3, I_ x3), (4, I_ (x4 + 1))] [] n (W0 dy) g 0 0 P) : V miX12_fewest (d + 1) 143 [(0, .ref 53), (1, I_ x1), (2, I_ x2), (3, I_ x3), (4, I_ x4)] [] n (W0 dy) g 0 0 P := by
  refine v_iinc 78 4 [1, 2, 3, 4, 0] rfl rfl (by decide) rfl ?_
  refine v_goto 79 rfl (tgt := 99) rfl ?_
  exact h
set_option maxHeartbeats 8000000 in
set_option maxRecDepth 4000 in
theorem bX12_fewest_161 {d n : Nat} {dy : Nat → Shp} {g : Hp} {P : Pst} {x1 : Int} {x2 : Int} {x3 : Int} {x4 : Int} {xs0 : Int} (hn : 100 ≤ n) (h : P (some (I_ xs0)) n (W0 dy) g) : V miX12_fewest (d + 1) 161 [(0, .ref 53), (1, I_ x1), (2, I_ x2), (3, I_ x3), (4, I_ x4)] [I_ xs0] n (W0 dy) g 0 0 P := by
  exact v_ret (v := some (I_ xs0)) 86 rfl (Nat.zero_le _) (Nat.zero_le _) trivial rfl h
set_option maxHeartbeats 8000000 in
set_option maxRecDepth 4000 in
theorem bX12_fewest_172 {d n : Nat} {dy : Nat → Shp} {g : Hp} {P : Pst} {x1 : Int} {x2 : Int} {x3 : Int} {x4 : Int} {x5 : Int} (hn : 100 ≤ n) (h : (i3 x5) ∧ ((x5 < 0) → (i3 x4) ∧ ((0 ≤ x4) → V miX12_fewest (d + 1) 296 [(0, .ref 53), (1, I_ x1), (2, I_ x2), (3, I_ x3), (4, I_ x4), (5, I_ 0)] [] n (W0 dy) (up2 g 53 26 0) 0 0 P) ∧ ((x4 < 0) → Runs miX12_refuse d [.ref 53, I_ 11] n (W0 dy) g (fun v n' S' g' => V miX12_fewest (d + 1) 287 [(0, .ref 53), (1, I_ x1), (2, I_ x2), (3, I_ x3), (4, I_ x4), (5, I_ x5)] (v.toList ++ []) n' S' g' 0 0 P))) ∧ ((0 ≤ x5) → Runs miJ6_bitCount_0f7a4 d [I_ x5] n (W0 dy) g (fun v n' S' g' => V miX12_fewest (d + 1) 182 [(0, .ref 53), (1, I_ x1), (2, I_ x2), (3, I_ x3), (4, I_ x4), (5, I_ x5)] (v.toList ++ []) n' S' g' 0 0 P))) : V miX12_fewest (d + 1) 172 [(0, .ref 53), (1, I_ x1), (2, I_ x2), (3, I_ x3), (4, I_ x4), (5, I_ x5)] [] n (W0 dy) g 0 0 P := by
  refine v_iload 95 5 rfl rfl ?_
  have c1 := h.1
  have h := h.2
  refine v_if_lt 96 rfl (tgt := 276) rfl c1 (fun q4 => ?_) (fun q4 => ?_)
  · have h := h.1 q4
    refine v_iload 147 4 rfl rfl ?_
    have c2 := h.1
    have h := h.2
    refine v_if_ge 148 rfl (tgt := 288) rfl c2 (fun q3 => ?_) (fun q3 => ?_)
    · have h := h.1 q3
      refine v_aload_n 153 0 rfl rfl rfl ?_
      refine v_iconst 154 rfl ?_
      refine v_putI 155 rfl fl12_372_11 (al 53 rfl hn) (wk53 dy) (by decide) rfl (wc53_26 dy) (by decide) ?_
      refine v_iconst 156 rfl ?_
      refine v_istore 157 [1, 2, 3, 4, 5, 0] rfl (by decide) rfl ?_
      exact h
    · have h := h.2 q3
      refine v_aload_n 149 0 rfl rfl rfl ?_
      refine v_bipush 150 rfl (by decide) ?_
      refine v_callV (st := []) [I_ 11] 151 rfl lv12_174_fewest_11 (al 53 rfl hn) (wk53 dy) (by decide) rfl (Nat.le_refl _) (Nat.le_refl _) ?_
      exact h
  · have h := h.2 q4
    refine v_iload 97 5 rfl rfl ?_
    refine v_callS (st := []) [I_ x5] 98 rfl ls12_367_fewest rfl (Nat.lt_of_lt_of_le (by decide) hn) (Nat.le_refl _) (Nat.le_refl _) ?_
    exact h
set_option maxHeartbeats 8000000 in
set_option maxRecDepth 4000 in
theorem bX12_fewest_182 {d n : Nat} {dy : Nat → Shp} {g : Hp} {P : Pst} {x1 : Int} {x2 : Int} {x3 : Int} {x4 : Int} {x5 : Int} {xs0 : Int} (hn : 100 ≤ n) (h : (i3 xs0) ∧ (i3 x2) ∧ ((xs0 < x2) → V miX12_fewest (d + 1) 270 [(0, .ref 53), (1, I_ x1), (2, I_ x2), (3, I_ x3), (4, I_ x4), (5, I_ x5), (6, I_ xs0)] [] n (W0 dy) g 0 0 P) ∧ ((x2 ≤ xs0) → (i3 x4) ∧ ((x4 < 0) → V miX12_fewest (d + 1) 208 [(0, .ref 53), (1, I_ x1), (2, I_ x2), (3, I_ x3), (4, I_ x4), (5, I_ x5), (6, I_ xs0)] [] n (W0 dy) g 0 0 P) ∧ ((0 ≤ x4) → Runs miJ6_bitCount_0f7a4 d [I_ x4] n (W0 dy) g (fun v n' S' g' => V miX12_fewest (d + 1) 202 [(0, .ref 53), (1, I_ x1), (2, I_ x2), (3, I_ x3), (4, I_ x4), (5, I_ x5), (6, I_ xs0)] (v.toList ++ [I_ xs0]) n' S' g' 0 0 P)))) : V miX12_fewest (d + 1) 182 [(0, .ref 53), (1, I_ x1), (2, I_ x2), (3, I_ x3), (4, I_ x4), (5, I_ x5)] [I_ xs0] n (W0 dy) g 0 0 P := by
  refine v_istore 99 [1, 2, 3, 4, 5, 6, 0] rfl (by decide) rfl ?_
  refine v_iload 100 6 rfl rfl ?_
  refine v_iload_n 101 2 rfl rfl rfl ?_
  have c1 := h.1
  have h := h.2
  have c2 := h.1
  have h := h.2
  refine v_icmp_lt 102 rfl (tgt := 270) rfl c1 c2 (fun q5 => ?_) (fun q5 => ?_)
  · have h := h.1 q5
    exact h
  · have h := h.2 q5
    refine v_iload 103 4 rfl rfl ?_
    have c3 := h.1
    have h := h.2
    refine v_if_lt 104 rfl (tgt := 208) rfl c3 (fun q4 => ?_) (fun q4 => ?_)
    · have h := h.1 q4
      exact h
    · have h := h.2 q4
      refine v_iload 105 6 rfl rfl ?_
      refine v_iload 106 4 rfl rfl ?_
      refine v_callS (st := [I_ xs0]) [I_ x4] 107 rfl ls12_367_fewest rfl (Nat.lt_of_lt_of_le (by decide) hn) (Nat.le_refl _) (Nat.le_refl _) ?_
      exact h
set_option maxHeartbeats 8000000 in
set_option maxRecDepth 4000 in
theorem bX12_fewest_202 {d n : Nat} {dy : Nat → Shp} {g : Hp} {P : Pst} {x1 : Int} {x2 : Int} {x3 : Int} {x4 : Int} {x5 : Int} {x6 : Int} {xs0 : Int} {xs1 : Int} (hn : 100 ≤ n) (h : (i3 xs0) ∧ (i3 xs1) ∧ ((xs0 < xs1) → V miX12_fewest (d + 1) 208 [(0, .ref 53), (1, I_ x1), (2, I_ x2), (3, I_ x3), (4, I_ x4), (5, I_ x5), (6, I_ x6)] [] n (W0 dy) g 0 0 P) ∧ ((xs1 ≤ xs0) → V miX12_fewest (d + 1) 270 [(0, .ref 53), (1, I_ x1), (2, I_ x2), (3, I_ x3), (4, I_ x4), (5, I_ x5), (6, I_ x6)] [] n (W0 dy) g 0 0 P)) : V miX12_fewest (d + 1) 202 [(0, .ref 53), (1, I_ x1), (2, I_ x2), (3, I_ x3), (4, I_ x4), (5, I_ x5), (6, I_ x6)] [I_ xs1, I_ xs0] n (W0 dy) g 0 0 P := by
  have c1 := h.1
  have h := h.2
  have c2 := h.1
  have h := h.2
  refine v_icmp_lt 108 rfl (tgt := 208) rfl c1 c2 (fun q3 => ?_) (fun q3 => ?_)
  · have h := h.1 q3
    exact h
  · have h := h.2 q3
    refine v_goto 109 rfl (tgt := 270) rfl ?_
    exact h
set_option maxHeartbeats 8000000 in
set_option maxRecDepth 4000 in
theorem bX12_fewest_208 {d n : Nat} {dy : Nat → Shp} {g : Hp} {P : Pst} {x1 : Int} {x2 : Int} {x3 : Int} {x4 : Int} {x5 : Int} {x6 : Int} (hn : 100 ≤ n) (h : V miX12_fewest (d + 1) 211 [(0, .ref 53), (1, I_ x1), (2, I_ x2), (3, I_ x3), (4, I_ x4), (5, I_ x5), (6, I_ x6), (7, I_ 0)] [] n (W0 dy) g 0 0 P) : V miX12_fewest (d + 1) 208 [(0, .ref 53), (1, I_ x1), (2, I_ x2), (3, I_ x3), (4, I_ x4), (5, I_ x5), (6, I_ x6)] [] n (W0 dy) g 0 0 P := by
  refine v_iconst 110 rfl ?_
  refine v_istore 111 [1, 2, 3, 4, 5, 6, 7, 0] rfl (by decide) rfl ?_
  exact h
set_option maxHeartbeats 8000000 in
set_option maxRecDepth 4000 in
theorem bX12_fewest_211 {d n : Nat} {dy : Nat → Shp} {g : Hp} {P : Pst} {x1 : Int} {x2 : Int} {x3 : Int} {x4 : Int} {x5 : Int} {x6 : Int} {x7 : Int} (hn : 100 ≤ n) (h : (i3 x7) ∧ (i3 x3) ∧ ((x3 ≤ x7) → Runs miX12_loads d [.ref 53] n (W0 dy) g (fun v n' S' g' => V miX12_fewest (d + 1) 259 [(0, .ref 53), (1, I_ x1), (2, I_ x2), (3, I_ x3), (4, I_ x4), (5, I_ x5), (6, I_ x6), (7, I_ x7)] (v.toList ++ []) n' S' g' 0 0 P)) ∧ ((x7 < x3) → (0 ≤ x7 ∧ x7 < 60) ∧ (((and3 (shr3 x5 ((x3 - 1) - x7)) 1) ≠ 1) → V miX12_fewest (d + 1) 248 [(0, .ref 53), (1, I_ x1), (2, I_ x2), (3, I_ x3), (4, I_ x4), (5, I_ x5), (6, I_ x6), (7, I_ x7)] [I_ 0, I_ (g 96 x7.toNat), .ref 76] n (W0 dy) g 0 0 P) ∧ (((and3 (shr3 x5 ((x3 - 1) - x7)) 1) = 1) → V miX12_fewest (d + 1) 248 [(0, .ref 53), (1, I_ x1), (2, I_ x2), (3, I_ x3), (4, I_ x4), (5, I_ x5), (6, I_ x6), (7, I_ x7)] [I_ 1, I_ (g 96 x7.toNat), .ref 76] n (W0 dy) g 0 0 P))) : V miX12_fewest (d + 1) 211 [(0, .ref 53), (1, I_ x1), (2, I_ x2), (3, I_ x3), (4, I_ x4), (5, I_ x5), (6, I_ x6), (7, I_ x7)] [] n (W0 dy) g 0 0 P := by
  refine v_iload 112 7 rfl rfl ?_
  refine v_iload_n 113 3 rfl rfl rfl ?_
  have c1 := h.1
  have h := h.2
  have c2 := h.1
  have h := h.2
  refine v_icmp_ge 114 rfl (tgt := 255) rfl c1 c2 (fun q7 => ?_) (fun q7 => ?_)
  · have h := h.1 q7
    refine v_aload_n 138 0 rfl rfl rfl ?_
    refine v_callV (st := []) [] 139 rfl lv12_255_fewest_11 (al 53 rfl hn) (wk53 dy) (by decide) rfl (Nat.le_refl _) (Nat.le_refl _) ?_
    exact h
  · have h := h.2 q7
    refine v_aload_n 115 0 rfl rfl rfl ?_
    refine v_gK 116 rfl fl12_78_11.r (al 53 rfl hn) (wk53 dy) (by decide) rfl (r := 76) (wc53_25 dy) ?_
    refine v_aload_n 117 0 rfl rfl rfl ?_
    refine v_gK 118 rfl fl12_139_11.r (al 53 rfl hn) (wk53 dy) (by decide) rfl (r := 96) (wc53_54 dy) ?_
    refine v_iload 119 7 rfl rfl ?_
    have c3 := h.1
    have h := h.2
    refine v_ia (N := 60) 120 rfl (al 96 rfl hn) (wk96 dy) (wn96 dy) (by decide) c3 (y := g 96 x7.toNat) rfl ?_
    refine v_rng fun w4 => ?_
    have r5 : i3 (g 96 x7.toNat) := rI w4 (q := x7.toNat) (al 96 rfl hn) (wk96 dy) rfl rfl
    refine v_iload 121 5 rfl rfl ?_
    refine v_iload_n 122 3 rfl rfl rfl ?_
    refine v_iconst 123 rfl ?_
    refine v_isub 124 rfl ?_
    refine v_iload 125 7 rfl rfl ?_
    refine v_isub 126 rfl ?_
    refine v_ishr 127 rfl ?_
    refine v_iconst 128 rfl ?_
    refine v_iand 129 rfl ?_
    refine v_iconst 130 rfl ?_
    refine v_icmp_ne 131 rfl (tgt := 247) rfl (and3_r _ _) (by decide) (fun q6 => ?_) (fun q6 => ?_)
    · have h := h.1 q6
      refine v_iconst 134 rfl ?_
      exact h
    · have h := h.2 q6
      refine v_iconst 132 rfl ?_
      refine v_goto 133 rfl (tgt := 248) rfl ?_
      exact h
set_option maxHeartbeats 8000000 in
set_option maxRecDepth 4000 in
theorem bX12_fewest_248 {d n : Nat} {dy : Nat → Shp} {g : Hp} {P : Pst} {x1 : Int} {x2 : Int} {x3 : Int} {x4 : Int} {x5 : Int} {x6 : Int} {x7 : Int} {xs1 : Int} {xs2 : Int} (hn : 100 ≤ n) (h : (0 ≤ xs1 ∧ xs1 < 60) ∧ (i3 xs2) ∧ (xs2 = 0 ∨ xs2 = 1) ∧ V miX12_fewest (d + 1) 211 [(0, .ref 53), (1, I_ x1), (2, I_ x2), (3, I_ x3), (4, I_ x4), (5, I_ x5), (6, I_ x6), (7, I_ (x7 + 1))] [] n (W0 dy) (up2 g 76 xs1.toNat xs2) 0 0 P) : V miX12_fewest (d + 1) 248 [(0, .ref 53), (1, I_ x1), (2, I_ x2), (3, I_ x3), (4, I_ x4), (5, I_ x5), (6, I_ x6), (7, I_ x7)] [I_ xs2, I_ xs1, .ref 76] n (W0 dy) g 0 0 P := by
  have c1 := h.1
  have h := h.2
  have c2 := h.1
  have h := h.2
  have c3 := h.1
  have h := h.2
  refine v_zast (N := 60) 135 rfl (al 76 rfl hn) (wk76 dy) (wn76 dy) (by decide) c1 c3 c2 ?_
  refine v_iinc 136 7 [1, 2, 3, 4, 5, 6, 7, 0] rfl rfl (by decide) rfl ?_
  refine v_goto 137 rfl (tgt := 211) rfl ?_
  exact h
set_option maxHeartbeats 8000000 in
set_option maxRecDepth 4000 in
theorem bX12_fewest_259 {d n : Nat} {dy : Nat → Shp} {g : Hp} {P : Pst} {x1 : Int} {x2 : Int} {x3 : Int} {x4 : Int} {x5 : Int} {x6 : Int} {x7 : Int} (hn : 100 ≤ n) (h : Runs miX12_wrongRods d [.ref 53] n (W0 dy) g (fun v n' S' g' => V miX12_fewest (d + 1) 263 [(0, .ref 53), (1, I_ x1), (2, I_ x2), (3, I_ x3), (4, I_ x4), (5, I_ x5), (6, I_ x6), (7, I_ x7)] (v.toList ++ []) n' S' g' 0 0 P)) : V miX12_fewest (d + 1) 259 [(0, .ref 53), (1, I_ x1), (2, I_ x2), (3, I_ x3), (4, I_ x4), (5, I_ x5), (6, I_ x6), (7, I_ x7)] [] n (W0 dy) g 0 0 P := by
  refine v_aload_n 140 0 rfl rfl rfl ?_
  refine v_callV (st := []) [] 141 rfl lv12_280_fewest_11 (al 53 rfl hn) (wk53 dy) (by decide) rfl (Nat.le_refl _) (Nat.le_refl _) ?_
  exact h
set_option maxHeartbeats 8000000 in
set_option maxRecDepth 4000 in
theorem bX12_fewest_263 {d n : Nat} {dy : Nat → Shp} {g : Hp} {P : Pst} {x1 : Int} {x2 : Int} {x3 : Int} {x4 : Int} {x5 : Int} {x6 : Int} {x7 : Int} {xs0 : Int} (hn : 100 ≤ n) (h : (i3 xs0) ∧ ((xs0 ≠ 0) → V miX12_fewest (d + 1) 270 [(0, .ref 53), (1, I_ x1), (2, I_ x2), (3, I_ x3), (4, I_ x4), (5, I_ x5), (6, I_ x6)] [] n (W0 dy) g 0 0 P) ∧ ((xs0 = 0) → V miX12_fewest (d + 1) 270 [(0, .ref 53), (1, I_ x1), (2, I_ x2), (3, I_ x3), (4, I_ x5), (5, I_ x5), (6, I_ x6)] [] n (W0 dy) g 0 0 P)) : V miX12_fewest (d + 1) 263 [(0, .ref 53), (1, I_ x1), (2, I_ x2), (3, I_ x3), (4, I_ x4), (5, I_ x5), (6, I_ x6), (7, I_ x7)] [I_ xs0] n (W0 dy) g 0 0 P := by
  have c1 := h.1
  have h := h.2
  refine v_if_ne 142 rfl (tgt := 270) rfl c1 (fun q2 => ?_) (fun q2 => ?_)
  · have h := h.1 q2
    refine v_loc [0, 1, 2, 3, 4, 5, 6] rfl ?_
    exact h
  · have h := h.2 q2
    refine v_iload 143 5 rfl rfl ?_
    refine v_istore 144 [1, 2, 3, 4, 0, 5, 6, 7] rfl (by decide) rfl ?_
    refine v_loc [0, 1, 2, 3, 4, 5, 6] rfl ?_
    exact h
set_option maxHeartbeats 8000000 in
set_option maxRecDepth 4000 in
theorem bX12_fewest_270 {d n : Nat} {dy : Nat → Shp} {g : Hp} {P : Pst} {x1 : Int} {x2 : Int} {x3 : Int} {x4 : Int} {x5 : Int} {x6 : Int} (hn : 100 ≤ n) (h : V miX12_fewest (d + 1) 172 [(0, .ref 53), (1, I_ x1), (2, I_ x2), (3, I_ x3), (4, I_ x4), (5, I_ (x5 + (-1)))] [] n (W0 dy) g 0 0 P) : V miX12_fewest (d + 1) 270 [(0, .ref 53), (1, I_ x1), (2, I_ x2), (3, I_ x3), (4, I_ x4), (5, I_ x5), (6, I_ x6)] [] n (W0 dy) g 0 0 P := by
  refine v_iinc 145 5 [1, 2, 3, 4, 5, 0, 6] rfl rfl (by decide) rfl ?_
  refine v_goto 146 rfl (tgt := 172) rfl ?_
  refine v_loc [0, 1, 2, 3, 4, 5] rfl ?_
  exact h
set_option maxHeartbeats 8000000 in
set_option maxRecDepth 4000 in
theorem bX12_fewest_287 {d n : Nat} {dy : Nat → Shp} {g : Hp} {P : Pst} {x1 : Int} {x2 : Int} {x3 : Int} {x4 : Int} {x5 : Int} {xs0 : Int} (hn : 100 ≤ n) (h : P (some (I_ xs0)) n (W0 dy) g) : V miX12_fewest (d + 1) 287 [(0, .ref 53), (1, I_ x1), (2, I_ x2), (3, I_ x3), (4, I_ x4), (5, I_ x5)] [I_ xs0] n (W0 dy) g 0 0 P := by
  exact v_ret (v := some (I_ xs0)) 152 rfl (Nat.zero_le _) (Nat.zero_le _) trivial rfl h
set_option maxHeartbeats 8000000 in
set_option maxRecDepth 4000 in
theorem bX12_fewest_296 {d n : Nat} {dy : Nat → Shp} {g : Hp} {P : Pst} {x1 : Int} {x2 : Int} {x3 : Int} {x4 : Int} {x5 : Int} (hn : 100 ≤ n) (h : (i3 x5) ∧ (i3 x3) ∧ ((x3 ≤ x5) → P (some (I_ (g 53 26))) n (W0 dy) g) ∧ ((x5 < x3) → (((and3 (shr3 x4 ((x3 - 1) - x5)) 1) ≠ 0) → (0 ≤ x5 ∧ x5 < 60) ∧ (0 ≤ g 53 26 ∧ g 53 26 < 14) ∧ (i3 ((g 53 26) + 1)) ∧ V miX12_fewest (d + 1) 345 [(0, .ref 53), (1, I_ x1), (2, I_ x2), (3, I_ x3), (4, I_ x4), (5, I_ x5)] [] n (W0 dy) (up2 (up2 g 77 ((g 53 26).toNat) (g 96 x5.toNat)) 53 26 ((g 53 26) + 1)) 0 0 P) ∧ (((and3 (shr3 x4 ((x3 - 1) - x5)) 1) = 0) → V miX12_fewest (d + 1) 345 [(0, .ref 53), (1, I_ x1), (2, I_ x2), (3, I_ x3), (4, I_ x4), (5, I_ x5)] [] n (W0 dy) g 0 0 P))) : V miX12_fewest (d + 1) 296 [(0, .ref 53), (1, I_ x1), (2, I_ x2), (3, I_ x3), (4, I_ x4), (5, I_ x5)] [] n (W0 dy) g 0 0 P := by
  refine v_iload 158 5 rfl rfl ?_
  refine v_iload_n 159 3 rfl rfl rfl ?_
  have c1 := h.1
  have h := h.2
  have c2 := h.1
  have h := h.2
  refine v_icmp_ge 160 rfl (tgt := 351) rfl c1 c2 (fun q15 => ?_) (fun q15 => ?_)
  · have h := h.1 q15
    refine v_aload_n 189 0 rfl rfl rfl ?_
    refine v_gI 190 rfl fl12_372_11.r (al 53 rfl hn) (wk53 dy) (by decide) rfl (wc53_26 dy) (x := g 53 26) rfl ?_
    refine v_rng fun w3 => ?_
    have r4 : i3 (g 53 26) := rI w3 (q := 26) (al 53 rfl hn) (wk53 dy) rfl rfl
    exact v_ret (v := some (I_ (g 53 26))) 191 rfl (Nat.zero_le _) (Nat.zero_le _) trivial rfl h
  · have h := h.2 q15
    refine v_iload 161 4 rfl rfl ?_
    refine v_iload_n 162 3 rfl rfl rfl ?_
    refine v_iconst 163 rfl ?_
    refine v_isub 164 rfl ?_
    refine v_iload 165 5 rfl rfl ?_
    refine v_isub 166 rfl ?_
    refine v_ishr 167 rfl ?_
    refine v_iconst 168 rfl ?_
    refine v_iand 169 rfl ?_
    refine v_if_ne 170 rfl (tgt := 319) rfl (and3_r _ _) (fun q14 => ?_) (fun q14 => ?_)
    · have h := h.1 q14
      refine v_aload_n 172 0 rfl rfl rfl ?_
      refine v_gK 173 rfl fl12_81_11.r (al 53 rfl hn) (wk53 dy) (by decide) rfl (r := 77) (wc53_27 dy) ?_
      refine v_aload_n 174 0 rfl rfl rfl ?_
      refine v_gI 175 rfl fl12_372_11.r (al 53 rfl hn) (wk53 dy) (by decide) rfl (wc53_26 dy) (x := g 53 26) rfl ?_
      refine v_rng fun w5 => ?_
      have r6 : i3 (g 53 26) := rI w5 (q := 26) (al 53 rfl hn) (wk53 dy) rfl rfl
      refine v_aload_n 176 0 rfl rfl rfl ?_
      refine v_gK 177 rfl fl12_139_11.r (al 53 rfl hn) (wk53 dy) (by decide) rfl (r := 96) (wc53_54 dy) ?_
      refine v_iload 178 5 rfl rfl ?_
      have c7 := h.1
      have h := h.2
      refine v_ia (N := 60) 179 rfl (al 96 rfl hn) (wk96 dy) (wn96 dy) (by decide) c7 (y := g 96 x5.toNat) rfl ?_
      refine v_rng fun w8 => ?_
      have r9 : i3 (g 96 x5.toNat) := rI w8 (q := x5.toNat) (al 96 rfl hn) (wk96 dy) rfl rfl
      have c10 := h.1
      have h := h.2
      refine v_iast (N := 14) 180 rfl (al 77 rfl hn) (wk77 dy) (wn77 dy) (by decide) c10 r9 ?_
      refine v_aload_n 181 0 rfl rfl rfl ?_
      refine v_dup 182 rfl (by intro h; cases h) ?_
      refine v_gI 183 rfl fl12_372_11.r (al 53 rfl hn) (wk53 dy) (by decide) rfl (wc53_26 dy) (x := g 53 26) rfl ?_
      refine v_rng fun w11 => ?_
      have r12 : i3 (g 53 26) := rI w11 (q := 26) (al 53 rfl hn) (wk53 dy) rfl rfl
      refine v_iconst 184 rfl ?_
      refine v_iadd 185 rfl ?_
      have c13 := h.1
      have h := h.2
      refine v_putI 186 rfl fl12_372_11 (al 53 rfl hn) (wk53 dy) (by decide) rfl (wc53_26 dy) c13 ?_
      exact h
    · have h := h.2 q14
      refine v_goto 171 rfl (tgt := 345) rfl ?_
      exact h
set_option maxHeartbeats 8000000 in
set_option maxRecDepth 4000 in
theorem bX12_fewest_345 {d n : Nat} {dy : Nat → Shp} {g : Hp} {P : Pst} {x1 : Int} {x2 : Int} {x3 : Int} {x4 : Int} {x5 : Int} (hn : 100 ≤ n) (h : V miX12_fewest (d + 1) 296 [(0, .ref 53), (1, I_ x1), (2, I_ x2), (3, I_ x3), (4, I_ x4), (5, I_ (x5 + 1))] [] n (W0 dy) g 0 0 P) : V miX12_fewest (d + 1) 345 [(0, .ref 53), (1, I_ x1), (2, I_ x2), (3, I_ x3), (4, I_ x4), (5, I_ x5)] [] n (W0 dy) g 0 0 P := by
  refine v_iinc 187 5 [1, 2, 3, 4, 5, 0] rfl rfl (by decide) rfl ?_
  refine v_goto 188 rfl (tgt := 296) rfl ?_
  exact h
set_option maxHeartbeats 8000000 in
set_option maxRecDepth 4000 in
theorem bX12_suspect_0 {d n : Nat} {dy : Nat → Shp} {g : Hp} {P : Pst} {x1 : Int} (hn : 100 ≤ n) (h : (i3 x1) ∧ ((x1 < 0) → V miX12_suspect d 17 [(0, .ref 53), (1, I_ x1)] [] n (W0 dy) (up2 g 53 1 0) 0 0 P) ∧ ((0 ≤ x1) → ((x1 < (g 53 26)) → (0 ≤ x1 ∧ x1 < 14) ∧ V miX12_suspect d 27 [(0, .ref 53), (1, I_ x1)] [I_ (g 77 x1.toNat)] n (W0 dy) (up2 g 53 1 0) 0 0 P) ∧ (((g 53 26) ≤ x1) → V miX12_suspect d 17 [(0, .ref 53), (1, I_ x1)] [] n (W0 dy) (up2 g 53 1 0) 0 0 P))) : V miX12_suspect d 0 [(0, .ref 53), (1, I_ x1)] [] n (W0 dy) g 0 0 P := by
  refine v_aload_n 0 0 rfl rfl rfl ?_
  refine v_iconst 1 rfl ?_
  refine v_putI 2 rfl fl12_148_11 (al 53 rfl hn) (wk53 dy) (by decide) rfl (wc53_1 dy) (by decide) ?_
  refine v_iload_n 3 1 rfl rfl rfl ?_
  have c1 := h.1
  have h := h.2
  refine v_if_lt 4 rfl (tgt := 17) rfl c1 (fun q8 => ?_) (fun q8 => ?_)
  · have h := h.1 q8
    exact h
  · have h := h.2 q8
    refine v_iload_n 5 1 rfl rfl rfl ?_
    refine v_aload_n 6 0 rfl rfl rfl ?_
    refine v_gI 7 rfl fl12_372_11.r (al 53 rfl hn) (wk53 dy) (by decide) rfl (wc53_26 dy) (x := g 53 26) rfl ?_
    refine v_rng fun w2 => ?_
    have r3 : i3 (g 53 26) := rI w2 (q := 26) (al 53 rfl hn) (wk53 dy) rfl rfl
    refine v_icmp_lt 8 rfl (tgt := 21) rfl c1 r3 (fun q7 => ?_) (fun q7 => ?_)
    · have h := h.1 q7
      refine v_aload_n 11 0 rfl rfl rfl ?_
      refine v_gK 12 rfl fl12_81_11.r (al 53 rfl hn) (wk53 dy) (by decide) rfl (r := 77) (wc53_27 dy) ?_
      refine v_iload_n 13 1 rfl rfl rfl ?_
      have c4 := h.1
      have h := h.2
      refine v_ia (N := 14) 14 rfl (al 77 rfl hn) (wk77 dy) (wn77 dy) (by decide) c4 (y := g 77 x1.toNat) rfl ?_
      refine v_rng fun w5 => ?_
      have r6 : i3 (g 77 x1.toNat) := rI w5 (q := x1.toNat) (al 77 rfl hn) (wk77 dy) rfl rfl
      exact h
    · have h := h.2 q7
      exact h
set_option maxHeartbeats 8000000 in
set_option maxRecDepth 4000 in
theorem bX12_suspect_17 {d n : Nat} {dy : Nat → Shp} {g : Hp} {P : Pst} {x1 : Int} (hn : 100 ≤ n) (h : V miX12_suspect d 27 [(0, .ref 53), (1, I_ x1)] [I_ ((-1))] n (W0 dy) g 0 0 P) : V miX12_suspect d 17 [(0, .ref 53), (1, I_ x1)] [] n (W0 dy) g 0 0 P := by
  refine v_iconst 9 rfl ?_
  refine v_goto 10 rfl (tgt := 27) rfl ?_
  exact h
set_option maxHeartbeats 8000000 in
set_option maxRecDepth 4000 in
theorem bX12_suspect_27 {d n : Nat} {dy : Nat → Shp} {g : Hp} {P : Pst} {x1 : Int} {xs0 : Int} (hn : 100 ≤ n) (h : P (some (I_ xs0)) n (W0 dy) g) : V miX12_suspect d 27 [(0, .ref 53), (1, I_ x1)] [I_ xs0] n (W0 dy) g 0 0 P := by
  exact v_ret (v := some (I_ xs0)) 15 rfl (Nat.zero_le _) (Nat.zero_le _) trivial rfl h
theorem lv12_247_cut__11 : LkV miX12_cut_ miX12_takeOff 247 1 11 := ⟨⟨⟨tbG_in (List.mem_append_right _ (List.mem_of_getElem? (i := 1444) (by decide +kernel))) rfl, tbG_in (List.mem_append_right _ (List.mem_of_getElem? (i := 9) (by decide +kernel))) rfl, tbG_in (List.mem_append_right _ (List.mem_of_getElem? (i := 1441) (by decide +kernel))) rfl⟩, ⟨by decide +kernel, by decide +kernel, by decide +kernel⟩, by decide⟩, tbG_in (List.mem_append_right _ (List.mem_of_getElem? (i := 1443) (by decide +kernel))) rfl, RX12, TX12, 58, rfl, tbG_in (List.mem_append_left _ (List.mem_of_getElem? (i := 62) (by decide +kernel))) rfl⟩
set_option maxHeartbeats 8000000 in
set_option maxRecDepth 4000 in
theorem bX12_cut__0 {d n : Nat} {dy : Nat → Shp} {g : Hp} {P : Pst}  (hn : 100 ≤ n) (h : V miX12_cut_ (d + 1) 14 [(0, .ref 53), (1, I_ 0), (2, I_ 0)] [] n (W0 dy) (up2 (up2 g 53 1 0) 53 0 0) 0 0 P) : V miX12_cut_ (d + 1) 0 [(0, .ref 53)] [] n (W0 dy) g 0 0 P := by
  refine v_aload_n 0 0 rfl rfl rfl ?_
  refine v_iconst 1 rfl ?_
  refine v_putI 2 rfl fl12_148_11 (al 53 rfl hn) (wk53 dy) (by decide) rfl (wc53_1 dy) (by decide) ?_
  refine v_aload_n 3 0 rfl rfl rfl ?_
  refine v_iconst 4 rfl ?_
  refine v_putI 5 rfl fl12_152_11 (al 53 rfl hn) (wk53 dy) (by decide) rfl (wc53_0 dy) (by decide) ?_
  refine v_iconst 6 rfl ?_
  refine v_istore_n 7 [1, 0] rfl rfl (by decide) rfl ?_
  refine v_iconst 8 rfl ?_
  refine v_istore_n 9 [1, 2, 0] rfl rfl (by decide) rfl ?_
  exact h
set_option maxHeartbeats 8000000 in
set_option maxRecDepth 4000 in
theorem bX12_cut__14 {d n : Nat} {dy : Nat → Shp} {g : Hp} {P : Pst} {x1 : Int} {x2 : Int} (hn : 100 ≤ n) (h : (i3 x2) ∧ (((g 53 26) ≤ x2) → P (some (I_ x1)) n (W0 dy) g) ∧ ((x2 < (g 53 26)) → (0 ≤ x2 ∧ x2 < 14) ∧ (0 ≤ g 77 x2.toNat ∧ g 77 x2.toNat < 60) ∧ ((0 ≤ (g 60 ((g 77 x2.toNat).toNat))) → Runs miX12_takeOff d [.ref 53, I_ (g 77 x2.toNat)] n (W0 dy) g (fun v n' S' g' => V miX12_cut_ (d + 1) 49 [(0, .ref 53), (1, I_ x1), (2, I_ x2)] (v.toList ++ []) n' S' g' 0 0 P)) ∧ (((g 60 ((g 77 x2.toNat).toNat)) < 0) → V miX12_cut_ (d + 1) 52 [(0, .ref 53), (1, I_ x1), (2, I_ x2)] [] n (W0 dy) g 0 0 P))) : V miX12_cut_ (d + 1) 14 [(0, .ref 53), (1, I_ x1), (2, I_ x2)] [] n (W0 dy) g 0 0 P := by
  refine v_iload_n 10 2 rfl rfl rfl ?_
  refine v_aload_n 11 0 rfl rfl rfl ?_
  refine v_gI 12 rfl fl12_372_11.r (al 53 rfl hn) (wk53 dy) (by decide) rfl (wc53_26 dy) (x := g 53 26) rfl ?_
  refine v_rng fun w1 => ?_
  have r2 : i3 (g 53 26) := rI w1 (q := 26) (al 53 rfl hn) (wk53 dy) rfl rfl
  have c3 := h.1
  have h := h.2
  refine v_icmp_ge 13 rfl (tgt := 58) rfl c3 r2 (fun q13 => ?_) (fun q13 => ?_)
  · have h := h.1 q13
    refine v_iload_n 32 1 rfl rfl rfl ?_
    exact v_ret (v := some (I_ x1)) 33 rfl (Nat.zero_le _) (Nat.zero_le _) trivial rfl h
  · have h := h.2 q13
    refine v_aload_n 14 0 rfl rfl rfl ?_
    refine v_gK 15 rfl fl12_29_11.r (al 53 rfl hn) (wk53 dy) (by decide) rfl (r := 60) (wc53_9 dy) ?_
    refine v_aload_n 16 0 rfl rfl rfl ?_
    refine v_gK 17 rfl fl12_81_11.r (al 53 rfl hn) (wk53 dy) (by decide) rfl (r := 77) (wc53_27 dy) ?_
    refine v_iload_n 18 2 rfl rfl rfl ?_
    have c4 := h.1
    have h := h.2
    refine v_ia (N := 14) 19 rfl (al 77 rfl hn) (wk77 dy) (wn77 dy) (by decide) c4 (y := g 77 x2.toNat) rfl ?_
    refine v_rng fun w5 => ?_
    have r6 : i3 (g 77 x2.toNat) := rI w5 (q := x2.toNat) (al 77 rfl hn) (wk77 dy) rfl rfl
    have c7 := h.1
    have h := h.2
    refine v_ia (N := 60) 20 rfl (al 60 rfl hn) (wk60 dy) (wn60 dy) (by decide) c7 (y := g 60 ((g 77 x2.toNat).toNat)) rfl ?_
    refine v_rng fun w8 => ?_
    have r9 : i3 (g 60 ((g 77 x2.toNat).toNat)) := rI w8 (q := ((g 77 x2.toNat).toNat)) (al 60 rfl hn) (wk60 dy) rfl rfl
    refine v_if_ge 21 rfl (tgt := 39) rfl r9 (fun q12 => ?_) (fun q12 => ?_)
    · have h := h.1 q12
      refine v_aload_n 23 0 rfl rfl rfl ?_
      refine v_aload_n 24 0 rfl rfl rfl ?_
      refine v_gK 25 rfl fl12_81_11.r (al 53 rfl hn) (wk53 dy) (by decide) rfl (r := 77) (wc53_27 dy) ?_
      refine v_iload_n 26 2 rfl rfl rfl ?_
      refine v_ia (N := 14) 27 rfl (al 77 rfl hn) (wk77 dy) (wn77 dy) (by decide) c4 (y := g 77 x2.toNat) rfl ?_
      refine v_rng fun w10 => ?_
      have r11 : i3 (g 77 x2.toNat) := rI w10 (q := x2.toNat) (al 77 rfl hn) (wk77 dy) rfl rfl
      refine v_callV (st := []) [I_ (g 77 x2.toNat)] 28 rfl lv12_247_cut__11 (al 53 rfl hn) (wk53 dy) (by decide) rfl (Nat.le_refl _) (Nat.le_refl _) ?_
      exact h
    · have h := h.2 q12
      refine v_goto 22 rfl (tgt := 52) rfl ?_
      exact h
set_option maxHeartbeats 8000000 in
set_option maxRecDepth 4000 in
theorem bX12_cut__49 {d n : Nat} {dy : Nat → Shp} {g : Hp} {P : Pst} {x1 : Int} {x2 : Int} (hn : 100 ≤ n) (h : V miX12_cut_ (d + 1) 52 [(0, .ref 53), (1, I_ (x1 + 1)), (2, I_ x2)] [] n (W0 dy) g 0 0 P) : V miX12_cut_ (d + 1) 49 [(0, .ref 53), (1, I_ x1), (2, I_ x2)] [] n (W0 dy) g 0 0 P := by
  refine v_iinc 29 1 [1, 0, 2] rfl rfl (by decide) rfl ?_
  exact h
set_option maxHeartbeats 8000000 in
set_option maxRecDepth 4000 in
theorem bX12_cut__52 {d n : Nat} {dy : Nat → Shp} {g : Hp} {P : Pst} {x1 : Int} {x2 : Int} (hn : 100 ≤ n) (h : V miX12_cut_ (d + 1) 14 [(0, .ref 53), (1, I_ x1), (2, I_ (x2 + 1))] [] n (W0 dy) g 0 0 P) : V miX12_cut_ (d + 1) 52 [(0, .ref 53), (1, I_ x1), (2, I_ x2)] [] n (W0 dy) g 0 0 P := by
  refine v_iinc 30 2 [1, 2, 0] rfl rfl (by decide) rfl ?_
  refine v_goto 31 rfl (tgt := 14) rfl ?_
  exact h
theorem fl12_68_11 : FL RX12 68 11 22 true (.array .int) := ⟨RX12, TX12, 58, "MobileMakerModel", rfl, rfl, by decide, kf11, tbG_in (List.mem_append_right _ (List.mem_of_getElem? (i := 1149) (by decide +kernel))) rfl, Or.inl rfl, rfl, by decide +kernel, ⟨tyX12, tyX12_ok⟩, nmX12, fun _ => rfl⟩
set_option maxHeartbeats 8000000 in
set_option maxRecDepth 4000 in
theorem bX12_isSide_0 {d n : Nat} {dy : Nat → Shp} {g : Hp} {P : Pst} {x1 : Int} {x2 : Int} (hn : 100 ≤ n) (h : (i3 x1) ∧ ((x1 < 0) → V miX12_isSide d 8 [(0, .ref 53), (1, I_ x1), (2, I_ x2)] [] n (W0 dy) g 0 0 P) ∧ ((0 ≤ x1) → (i3 x2) ∧ ((0 ≤ x2) → (0 ≤ x1 ∧ x1 < 60) ∧ (0 ≤ x2 ∧ x2 < 60) ∧ (((g 73 x1.toNat) ≠ (g 73 x2.toNat)) → V miX12_isSide d 56 [(0, .ref 53), (1, I_ x1), (2, I_ x2)] [] n (W0 dy) g 0 0 P) ∧ (((g 73 x1.toNat) = (g 73 x2.toNat)) → (((g 62 x1.toNat) ≠ (g 62 x2.toNat)) → V miX12_isSide d 56 [(0, .ref 53), (1, I_ x1), (2, I_ x2)] [] n (W0 dy) g 0 0 P) ∧ (((g 62 x1.toNat) = (g 62 x2.toNat)) → V miX12_isSide d 57 [(0, .ref 53), (1, I_ x1), (2, I_ x2)] [I_ 1] n (W0 dy) g 0 0 P))) ∧ ((x2 < 0) → V miX12_isSide d 8 [(0, .ref 53), (1, I_ x1), (2, I_ x2)] [] n (W0 dy) g 0 0 P))) : V miX12_isSide d 0 [(0, .ref 53), (1, I_ x1), (2, I_ x2)] [] n (W0 dy) g 0 0 P := by
  refine v_iload_n 0 1 rfl rfl rfl ?_
  have c1 := h.1
  have h := h.2
  refine v_if_lt 1 rfl (tgt := 8) rfl c1 (fun q16 => ?_) (fun q16 => ?_)
  · have h := h.1 q16
    exact h
  · have h := h.2 q16
    refine v_iload_n 2 2 rfl rfl rfl ?_
    have c2 := h.1
    have h := h.2
    refine v_if_ge 3 rfl (tgt := 22) rfl c2 (fun q15 => ?_) (fun q15 => ?_)
    · have h := h.1 q15
      refine v_aload_n 12 0 rfl rfl rfl ?_
      refine v_gK 13 rfl fl12_68_11.r (al 53 rfl hn) (wk53 dy) (by decide) rfl (r := 73) (wc53_22 dy) ?_
      refine v_iload_n 14 1 rfl rfl rfl ?_
      have c3 := h.1
      have h := h.2
      refine v_ia (N := 60) 15 rfl (al 73 rfl hn) (wk73 dy) (wn73 dy) (by decide) c3 (y := g 73 x1.toNat) rfl ?_
      refine v_rng fun w4 => ?_
      have r5 : i3 (g 73 x1.toNat) := rI w4 (q := x1.toNat) (al 73 rfl hn) (wk73 dy) rfl rfl
      refine v_aload_n 16 0 rfl rfl rfl ?_
      refine v_gK 17 rfl fl12_68_11.r (al 53 rfl hn) (wk53 dy) (by decide) rfl (r := 73) (wc53_22 dy) ?_
      refine v_iload_n 18 2 rfl rfl rfl ?_
      have c6 := h.1
      have h := h.2
      refine v_ia (N := 60) 19 rfl (al 73 rfl hn) (wk73 dy) (wn73 dy) (by decide) c6 (y := g 73 x2.toNat) rfl ?_
      refine v_rng fun w7 => ?_
      have r8 : i3 (g 73 x2.toNat) := rI w7 (q := x2.toNat) (al 73 rfl hn) (wk73 dy) rfl rfl
      refine v_icmp_ne 20 rfl (tgt := 56) rfl r5 r8 (fun q14 => ?_) (fun q14 => ?_)
      · have h := h.1 q14
        exact h
      · have h := h.2 q14
        refine v_aload_n 21 0 rfl rfl rfl ?_
        refine v_gK 22 rfl fl12_35_11.r (al 53 rfl hn) (wk53 dy) (by decide) rfl (r := 62) (wc53_11 dy) ?_
        refine v_iload_n 23 1 rfl rfl rfl ?_
        refine v_ia (N := 60) 24 rfl (al 62 rfl hn) (wk62 dy) (wn62 dy) (by decide) c3 (y := g 62 x1.toNat) rfl ?_
        refine v_rng fun w9 => ?_
        have r10 : i3 (g 62 x1.toNat) := rI w9 (q := x1.toNat) (al 62 rfl hn) (wk62 dy) rfl rfl
        refine v_aload_n 25 0 rfl rfl rfl ?_
        refine v_gK 26 rfl fl12_35_11.r (al 53 rfl hn) (wk53 dy) (by decide) rfl (r := 62) (wc53_11 dy) ?_
        refine v_iload_n 27 2 rfl rfl rfl ?_
        refine v_ia (N := 60) 28 rfl (al 62 rfl hn) (wk62 dy) (wn62 dy) (by decide) c6 (y := g 62 x2.toNat) rfl ?_
        refine v_rng fun w11 => ?_
        have r12 : i3 (g 62 x2.toNat) := rI w11 (q := x2.toNat) (al 62 rfl hn) (wk62 dy) rfl rfl
        refine v_icmp_ne 29 rfl (tgt := 56) rfl r10 r12 (fun q13 => ?_) (fun q13 => ?_)
        · have h := h.1 q13
          exact h
        · have h := h.2 q13
          refine v_iconst 30 rfl ?_
          refine v_goto 31 rfl (tgt := 57) rfl ?_
          exact h
    · have h := h.2 q15
      exact h
set_option maxHeartbeats 8000000 in
set_option maxRecDepth 4000 in
theorem bX12_isSide_8 {d n : Nat} {dy : Nat → Shp} {g : Hp} {P : Pst} {x1 : Int} {x2 : Int} (hn : 100 ≤ n) (h : (i3 x1) ∧ ((0 ≤ x1) → V miX12_isSide d 20 [(0, .ref 53), (1, I_ x1), (2, I_ x2)] [] n (W0 dy) g 0 0 P) ∧ ((x1 < 0) → (i3 x2) ∧ ((0 ≤ x2) → V miX12_isSide d 20 [(0, .ref 53), (1, I_ x1), (2, I_ x2)] [] n (W0 dy) g 0 0 P) ∧ ((x2 < 0) → V miX12_isSide d 21 [(0, .ref 53), (1, I_ x1), (2, I_ x2)] [I_ 1] n (W0 dy) g 0 0 P))) : V miX12_isSide d 8 [(0, .ref 53), (1, I_ x1), (2, I_ x2)] [] n (W0 dy) g 0 0 P := by
  refine v_iload_n 4 1 rfl rfl rfl ?_
  have c1 := h.1
  have h := h.2
  refine v_if_ge 5 rfl (tgt := 20) rfl c1 (fun q4 => ?_) (fun q4 => ?_)
  · have h := h.1 q4
    exact h
  · have h := h.2 q4
    refine v_iload_n 6 2 rfl rfl rfl ?_
    have c2 := h.1
    have h := h.2
    refine v_if_ge 7 rfl (tgt := 20) rfl c2 (fun q3 => ?_) (fun q3 => ?_)
    · have h := h.1 q3
      exact h
    · have h := h.2 q3
      refine v_iconst 8 rfl ?_
      refine v_goto 9 rfl (tgt := 21) rfl ?_
      exact h
set_option maxHeartbeats 8000000 in
set_option maxRecDepth 4000 in
theorem bX12_isSide_20 {d n : Nat} {dy : Nat → Shp} {g : Hp} {P : Pst} {x1 : Int} {x2 : Int} (hn : 100 ≤ n) (h : V miX12_isSide d 21 [(0, .ref 53), (1, I_ x1), (2, I_ x2)] [I_ 0] n (W0 dy) g 0 0 P) : V miX12_isSide d 20 [(0, .ref 53), (1, I_ x1), (2, I_ x2)] [] n (W0 dy) g 0 0 P := by
  refine v_iconst 10 rfl ?_
  exact h
set_option maxHeartbeats 8000000 in
set_option maxRecDepth 4000 in
theorem bX12_isSide_21 {d n : Nat} {dy : Nat → Shp} {g : Hp} {P : Pst} {x1 : Int} {x2 : Int} {xs0 : Int} (hn : 100 ≤ n) (h : (xs0 = 0 ∨ xs0 = 1) ∧ P (some (I_ xs0)) n (W0 dy) g) : V miX12_isSide d 21 [(0, .ref 53), (1, I_ x1), (2, I_ x2)] [I_ xs0] n (W0 dy) g 0 0 P := by
  have c1 := h.1
  have h := h.2
  exact v_ret (v := some (I_ xs0)) 11 rfl (Nat.zero_le _) (Nat.zero_le _) (rokZ c1) rfl h
set_option maxHeartbeats 8000000 in
set_option maxRecDepth 4000 in
theorem bX12_isSide_56 {d n : Nat} {dy : Nat → Shp} {g : Hp} {P : Pst} {x1 : Int} {x2 : Int} (hn : 100 ≤ n) (h : V miX12_isSide d 57 [(0, .ref 53), (1, I_ x1), (2, I_ x2)] [I_ 0] n (W0 dy) g 0 0 P) : V miX12_isSide d 56 [(0, .ref 53), (1, I_ x1), (2, I_ x2)] [] n (W0 dy) g 0 0 P := by
  refine v_iconst 32 rfl ?_
  exact h
set_option maxHeartbeats 8000000 in
set_option maxRecDepth 4000 in
theorem bX12_isSide_57 {d n : Nat} {dy : Nat → Shp} {g : Hp} {P : Pst} {x1 : Int} {x2 : Int} {xs0 : Int} (hn : 100 ≤ n) (h : (xs0 = 0 ∨ xs0 = 1) ∧ P (some (I_ xs0)) n (W0 dy) g) : V miX12_isSide d 57 [(0, .ref 53), (1, I_ x1), (2, I_ x2)] [I_ xs0] n (W0 dy) g 0 0 P := by
  have c1 := h.1
  have h := h.2
  exact v_ret (v := some (I_ xs0)) 33 rfl (Nat.zero_le _) (Nat.zero_le _) (rokZ c1) rfl h
theorem lv12_237_isLike_11 : LkV miX12_isLike miX12_isRod 237 1 11 := ⟨⟨⟨tbG_in (List.mem_append_right _ (List.mem_of_getElem? (i := 1428) (by decide +kernel))) rfl, tbG_in (List.mem_append_right _ (List.mem_of_getElem? (i := 9) (by decide +kernel))) rfl, tbG_in (List.mem_append_right _ (List.mem_of_getElem? (i := 1425) (by decide +kernel))) rfl⟩, ⟨by decide +kernel, by decide +kernel, by decide +kernel⟩, by decide⟩, tbG_in (List.mem_append_right _ (List.mem_of_getElem? (i := 1427) (by decide +kernel))) rfl, RX12, TX12, 58, rfl, tbG_in (List.mem_append_left _ (List.mem_of_getElem? (i := 60) (by decide +kernel))) rfl⟩
theorem lv12_375_isLike_11 : LkV miX12_isLike miX12_isSide 375 2 11 := ⟨⟨⟨tbG_in (List.mem_append_right _ (List.mem_of_getElem? (i := 1652) (by decide +kernel))) rfl, tbG_in (List.mem_append_right _ (List.mem_of_getElem? (i := 9) (by decide +kernel))) rfl, tbG_in (List.mem_append_right _ (List.mem_of_getElem? (i := 1649) (by decide +kernel))) rfl⟩, ⟨by decide +kernel, by decide +kernel, by decide +kernel⟩, by decide⟩, tbG_in (List.mem_append_right _ (List.mem_of_getElem? (i := 1651) (by decide +kernel))) rfl, RX12, TX12, 58, rfl, tbG_in (List.mem_append_left _ (List.mem_of_getElem? (i := 93) (by decide +kernel))) rfl⟩
set_option maxHeartbeats 8000000 in
set_option maxRecDepth 4000 in
theorem bX12_isLike_0 {d n : Nat} {dy : Nat → Shp} {g : Hp} {P : Pst} {x1 : Int} {x2 : Int} (hn : 100 ≤ n) (h : (0 ≤ x1 ∧ x1 < 60) ∧ (0 ≤ x2 ∧ x2 < 60) ∧ (((g 57 x1.toNat) ≠ (g 57 x2.toNat)) → V miX12_isLike (d + 1) 31 [(0, .ref 53), (1, I_ x1), (2, I_ x2)] [] n (W0 dy) g 0 0 P) ∧ (((g 57 x1.toNat) = (g 57 x2.toNat)) → (((g 63 x1.toNat) = (g 63 x2.toNat)) → Runs miX12_isRod d [.ref 53, I_ x1] n (W0 dy) g (fun v n' S' g' => V miX12_isLike (d + 1) 38 [(0, .ref 53), (1, I_ x1), (2, I_ x2)] (v.toList ++ []) n' S' g' 0 0 P)) ∧ (((g 63 x1.toNat) ≠ (g 63 x2.toNat)) → V miX12_isLike (d + 1) 31 [(0, .ref 53), (1, I_ x1), (2, I_ x2)] [] n (W0 dy) g 0 0 P))) : V miX12_isLike (d + 1) 0 [(0, .ref 53), (1, I_ x1), (2, I_ x2)] [] n (W0 dy) g 0 0 P := by
  refine v_aload_n 0 0 rfl rfl rfl ?_
  refine v_gK 1 rfl fl12_20_11.r (al 53 rfl hn) (wk53 dy) (by decide) rfl (r := 57) (wc53_6 dy) ?_
  refine v_iload_n 2 1 rfl rfl rfl ?_
  have c1 := h.1
  have h := h.2
  refine v_ia (N := 60) 3 rfl (al 57 rfl hn) (wk57 dy) (wn57 dy) (by decide) c1 (y := g 57 x1.toNat) rfl ?_
  refine v_rng fun w2 => ?_
  have r3 : i3 (g 57 x1.toNat) := rI w2 (q := x1.toNat) (al 57 rfl hn) (wk57 dy) rfl rfl
  refine v_aload_n 4 0 rfl rfl rfl ?_
  refine v_gK 5 rfl fl12_20_11.r (al 53 rfl hn) (wk53 dy) (by decide) rfl (r := 57) (wc53_6 dy) ?_
  refine v_iload_n 6 2 rfl rfl rfl ?_
  have c4 := h.1
  have h := h.2
  refine v_ia (N := 60) 7 rfl (al 57 rfl hn) (wk57 dy) (wn57 dy) (by decide) c4 (y := g 57 x2.toNat) rfl ?_
  refine v_rng fun w5 => ?_
  have r6 : i3 (g 57 x2.toNat) := rI w5 (q := x2.toNat) (al 57 rfl hn) (wk57 dy) rfl rfl
  refine v_icmp_ne 8 rfl (tgt := 31) rfl r3 r6 (fun q12 => ?_) (fun q12 => ?_)
  · have h := h.1 q12
    exact h
  · have h := h.2 q12
    refine v_aload_n 9 0 rfl rfl rfl ?_
    refine v_gK 10 rfl fl12_38_11.r (al 53 rfl hn) (wk53 dy) (by decide) rfl (r := 63) (wc53_12 dy) ?_
    refine v_iload_n 11 1 rfl rfl rfl ?_
    refine v_la (N := 60) 12 rfl (al 63 rfl hn) (wk63 dy) (wn63 dy) (by decide) c1 (y := g 63 x1.toNat) rfl ?_
    refine v_rng fun w7 => ?_
    have r8 : i6 (g 63 x1.toNat) := rL w7 (q := x1.toNat) (al 63 rfl hn) (wk63 dy) rfl rfl
    refine v_aload_n 13 0 rfl rfl rfl ?_
    refine v_gK 14 rfl fl12_38_11.r (al 53 rfl hn) (wk53 dy) (by decide) rfl (r := 63) (wc53_12 dy) ?_
    refine v_iload_n 15 2 rfl rfl rfl ?_
    refine v_la (N := 60) 16 rfl (al 63 rfl hn) (wk63 dy) (wn63 dy) (by decide) c4 (y := g 63 x2.toNat) rfl ?_
    refine v_rng fun w9 => ?_
    have r10 : i6 (g 63 x2.toNat) := rL w9 (q := x2.toNat) (al 63 rfl hn) (wk63 dy) rfl rfl
    refine v_lif_eq 17 rfl rfl (tgt := 33) rfl r8 r10 (fun q11 => ?_) (fun q11 => ?_)
    · have h := h.1 q11
      refine v_aload_n 21 0 rfl rfl rfl ?_
      refine v_iload_n 22 1 rfl rfl rfl ?_
      refine v_callV (st := []) [I_ x1] 23 rfl lv12_237_isLike_11 (al 53 rfl hn) (wk53 dy) (by decide) rfl (Nat.le_refl _) (Nat.le_refl _) ?_
      exact h
    · have h := h.2 q11
      exact h
set_option maxHeartbeats 8000000 in
set_option maxRecDepth 4000 in
theorem bX12_isLike_31 {d n : Nat} {dy : Nat → Shp} {g : Hp} {P : Pst} {x1 : Int} {x2 : Int} (hn : 100 ≤ n) (h : P (some (I_ 0)) n (W0 dy) g) : V miX12_isLike (d + 1) 31 [(0, .ref 53), (1, I_ x1), (2, I_ x2)] [] n (W0 dy) g 0 0 P := by
  refine v_iconst 19 rfl ?_
  exact v_ret (v := some (I_ 0)) 20 rfl (Nat.zero_le _) (Nat.zero_le _) (Or.inl rfl) rfl h
set_option maxHeartbeats 8000000 in
set_option maxRecDepth 4000 in
theorem bX12_isLike_38 {d n : Nat} {dy : Nat → Shp} {g : Hp} {P : Pst} {x1 : Int} {x2 : Int} {xs0 : Int} (hn : 100 ≤ n) (h : (i3 xs0) ∧ ((xs0 ≠ 0) → (0 ≤ x1 ∧ x1 < 60) ∧ (0 ≤ x2 ∧ x2 < 60) ∧ (((g 59 x1.toNat) ≠ (g 59 x2.toNat)) → V miX12_isLike (d + 1) 73 [(0, .ref 53), (1, I_ x1), (2, I_ x2)] [] n (W0 dy) g 0 0 P) ∧ (((g 59 x1.toNat) = (g 59 x2.toNat)) → (((g 58 x1.toNat) = (g 58 x2.toNat)) → (i6 ((g 64 x1.toNat) * (g 65 x2.toNat))) ∧ (i6 ((g 64 x2.toNat) * (g 65 x1.toNat))) ∧ ((((g 64 x1.toNat) * (g 65 x2.toNat)) ≠ ((g 64 x2.toNat) * (g 65 x1.toNat))) → V miX12_isLike (d + 1) 145 [(0, .ref 53), (1, I_ x1), (2, I_ x2)] [] n (W0 dy) g 0 0 P) ∧ ((((g 64 x1.toNat) * (g 65 x2.toNat)) = ((g 64 x2.toNat) * (g 65 x1.toNat))) → Runs miX12_isSide d [.ref 53, I_ (g 66 x1.toNat), I_ (g 66 x2.toNat)] n (W0 dy) g (fun v n' S' g' => V miX12_isLike (d + 1) 121 [(0, .ref 53), (1, I_ x1), (2, I_ x2)] (v.toList ++ []) n' S' g' 0 0 P))) ∧ (((g 58 x1.toNat) ≠ (g 58 x2.toNat)) → V miX12_isLike (d + 1) 73 [(0, .ref 53), (1, I_ x1), (2, I_ x2)] [] n (W0 dy) g 0 0 P))) ∧ ((xs0 = 0) → P (some (I_ 1)) n (W0 dy) g)) : V miX12_isLike (d + 1) 38 [(0, .ref 53), (1, I_ x1), (2, I_ x2)] [I_ xs0] n (W0 dy) g 0 0 P := by
  have c1 := h.1
  have h := h.2
  refine v_if_ne 24 rfl (tgt := 43) rfl c1 (fun q29 => ?_) (fun q29 => ?_)
  · have h := h.1 q29
    refine v_aload_n 27 0 rfl rfl rfl ?_
    refine v_gK 28 rfl fl12_26_11.r (al 53 rfl hn) (wk53 dy) (by decide) rfl (r := 59) (wc53_8 dy) ?_
    refine v_iload_n 29 1 rfl rfl rfl ?_
    have c2 := h.1
    have h := h.2
    refine v_ia (N := 60) 30 rfl (al 59 rfl hn) (wk59 dy) (wn59 dy) (by decide) c2 (y := g 59 x1.toNat) rfl ?_
    refine v_rng fun w3 => ?_
    have r4 : i3 (g 59 x1.toNat) := rI w3 (q := x1.toNat) (al 59 rfl hn) (wk59 dy) rfl rfl
    refine v_aload_n 31 0 rfl rfl rfl ?_
    refine v_gK 32 rfl fl12_26_11.r (al 53 rfl hn) (wk53 dy) (by decide) rfl (r := 59) (wc53_8 dy) ?_
    refine v_iload_n 33 2 rfl rfl rfl ?_
    have c5 := h.1
    have h := h.2
    refine v_ia (N := 60) 34 rfl (al 59 rfl hn) (wk59 dy) (wn59 dy) (by decide) c5 (y := g 59 x2.toNat) rfl ?_
    refine v_rng fun w6 => ?_
    have r7 : i3 (g 59 x2.toNat) := rI w6 (q := x2.toNat) (al 59 rfl hn) (wk59 dy) rfl rfl
    refine v_icmp_ne 35 rfl (tgt := 73) rfl r4 r7 (fun q28 => ?_) (fun q28 => ?_)
    · have h := h.1 q28
      exact h
    · have h := h.2 q28
      refine v_aload_n 36 0 rfl rfl rfl ?_
      refine v_gK 37 rfl fl12_23_11.r (al 53 rfl hn) (wk53 dy) (by decide) rfl (r := 58) (wc53_7 dy) ?_
      refine v_iload_n 38 1 rfl rfl rfl ?_
      refine v_ia (N := 60) 39 rfl (al 58 rfl hn) (wk58 dy) (wn58 dy) (by decide) c2 (y := g 58 x1.toNat) rfl ?_
      refine v_rng fun w8 => ?_
      have r9 : i3 (g 58 x1.toNat) := rI w8 (q := x1.toNat) (al 58 rfl hn) (wk58 dy) rfl rfl
      refine v_aload_n 40 0 rfl rfl rfl ?_
      refine v_gK 41 rfl fl12_23_11.r (al 53 rfl hn) (wk53 dy) (by decide) rfl (r := 58) (wc53_7 dy) ?_
      refine v_iload_n 42 2 rfl rfl rfl ?_
      refine v_ia (N := 60) 43 rfl (al 58 rfl hn) (wk58 dy) (wn58 dy) (by decide) c5 (y := g 58 x2.toNat) rfl ?_
      refine v_rng fun w10 => ?_
      have r11 : i3 (g 58 x2.toNat) := rI w10 (q := x2.toNat) (al 58 rfl hn) (wk58 dy) rfl rfl
      refine v_icmp_eq 44 rfl (tgt := 75) rfl r9 r11 (fun q27 => ?_) (fun q27 => ?_)
      · have h := h.1 q27
        refine v_aload_n 47 0 rfl rfl rfl ?_
        refine v_gK 48 rfl fl12_41_11.r (al 53 rfl hn) (wk53 dy) (by decide) rfl (r := 64) (wc53_13 dy) ?_
        refine v_iload_n 49 1 rfl rfl rfl ?_
        refine v_la (N := 60) 50 rfl (al 64 rfl hn) (wk64 dy) (wn64 dy) (by decide) c2 (y := g 64 x1.toNat) rfl ?_
        refine v_rng fun w12 => ?_
        have r13 : i6 (g 64 x1.toNat) := rL w12 (q := x1.toNat) (al 64 rfl hn) (wk64 dy) rfl rfl
        refine v_aload_n 51 0 rfl rfl rfl ?_
        refine v_gK 52 rfl fl12_44_11.r (al 53 rfl hn) (wk53 dy) (by decide) rfl (r := 65) (wc53_14 dy) ?_
        refine v_iload_n 53 2 rfl rfl rfl ?_
        refine v_la (N := 60) 54 rfl (al 65 rfl hn) (wk65 dy) (wn65 dy) (by decide) c5 (y := g 65 x2.toNat) rfl ?_
        refine v_rng fun w14 => ?_
        have r15 : i6 (g 65 x2.toNat) := rL w14 (q := x2.toNat) (al 65 rfl hn) (wk65 dy) rfl rfl
        refine v_lmul 55 rfl ?_
        refine v_aload_n 56 0 rfl rfl rfl ?_
        refine v_gK 57 rfl fl12_41_11.r (al 53 rfl hn) (wk53 dy) (by decide) rfl (r := 64) (wc53_13 dy) ?_
        refine v_iload_n 58 2 rfl rfl rfl ?_
        refine v_la (N := 60) 59 rfl (al 64 rfl hn) (wk64 dy) (wn64 dy) (by decide) c5 (y := g 64 x2.toNat) rfl ?_
        refine v_rng fun w16 => ?_
        have r17 : i6 (g 64 x2.toNat) := rL w16 (q := x2.toNat) (al 64 rfl hn) (wk64 dy) rfl rfl
        refine v_aload_n 60 0 rfl rfl rfl ?_
        refine v_gK 61 rfl fl12_44_11.r (al 53 rfl hn) (wk53 dy) (by decide) rfl (r := 65) (wc53_14 dy) ?_
        refine v_iload_n 62 1 rfl rfl rfl ?_
        refine v_la (N := 60) 63 rfl (al 65 rfl hn) (wk65 dy) (wn65 dy) (by decide) c2 (y := g 65 x1.toNat) rfl ?_
        refine v_rng fun w18 => ?_
        have r19 : i6 (g 65 x1.toNat) := rL w18 (q := x1.toNat) (al 65 rfl hn) (wk65 dy) rfl rfl
        refine v_lmul 64 rfl ?_
        have c20 := h.1
        have h := h.2
        have c21 := h.1
        have h := h.2
        refine v_lif_ne 65 rfl rfl (tgt := 145) rfl c20 c21 (fun q26 => ?_) (fun q26 => ?_)
        · have h := h.1 q26
          exact h
        · have h := h.2 q26
          refine v_aload_n 67 0 rfl rfl rfl ?_
          refine v_aload_n 68 0 rfl rfl rfl ?_
          refine v_gK 69 rfl fl12_47_11.r (al 53 rfl hn) (wk53 dy) (by decide) rfl (r := 66) (wc53_15 dy) ?_
          refine v_iload_n 70 1 rfl rfl rfl ?_
          refine v_ia (N := 60) 71 rfl (al 66 rfl hn) (wk66 dy) (wn66 dy) (by decide) c2 (y := g 66 x1.toNat) rfl ?_
          refine v_rng fun w22 => ?_
          have r23 : i3 (g 66 x1.toNat) := rI w22 (q := x1.toNat) (al 66 rfl hn) (wk66 dy) rfl rfl
          refine v_aload_n 72 0 rfl rfl rfl ?_
          refine v_gK 73 rfl fl12_47_11.r (al 53 rfl hn) (wk53 dy) (by decide) rfl (r := 66) (wc53_15 dy) ?_
          refine v_iload_n 74 2 rfl rfl rfl ?_
          refine v_ia (N := 60) 75 rfl (al 66 rfl hn) (wk66 dy) (wn66 dy) (by decide) c5 (y := g 66 x2.toNat) rfl ?_
          refine v_rng fun w24 => ?_
          have r25 : i3 (g 66 x2.toNat) := rI w24 (q := x2.toNat) (al 66 rfl hn) (wk66 dy) rfl rfl
          refine v_callV (st := []) [I_ (g 66 x1.toNat), I_ (g 66 x2.toNat)] 76 rfl lv12_375_isLike_11 (al 53 rfl hn) (wk53 dy) (by decide) rfl (Nat.le_refl _) (Nat.le_refl _) ?_
          exact h
      · have h := h.2 q27
        exact h
  · have h := h.2 q29
    refine v_iconst 25 rfl ?_
    exact v_ret (v := some (I_ 1)) 26 rfl (Nat.zero_le _) (Nat.zero_le _) (Or.inr rfl) rfl h
set_option maxHeartbeats 8000000 in
set_option maxRecDepth 4000 in
theorem bX12_isLike_73 {d n : Nat} {dy : Nat → Shp} {g : Hp} {P : Pst} {x1 : Int} {x2 : Int} (hn : 100 ≤ n) (h : P (some (I_ 0)) n (W0 dy) g) : V miX12_isLike (d + 1) 73 [(0, .ref 53), (1, I_ x1), (2, I_ x2)] [] n (W0 dy) g 0 0 P := by
  refine v_iconst 45 rfl ?_
  exact v_ret (v := some (I_ 0)) 46 rfl (Nat.zero_le _) (Nat.zero_le _) (Or.inl rfl) rfl h
set_option maxHeartbeats 8000000 in
set_option maxRecDepth 4000 in
theorem bX12_isLike_121 {d n : Nat} {dy : Nat → Shp} {g : Hp} {P : Pst} {x1 : Int} {x2 : Int} {xs0 : Int} (hn : 100 ≤ n) (h : (i3 xs0) ∧ ((xs0 = 0) → V miX12_isLike (d + 1) 145 [(0, .ref 53), (1, I_ x1), (2, I_ x2)] [] n (W0 dy) g 0 0 P) ∧ ((xs0 ≠ 0) → (0 ≤ x1 ∧ x1 < 60) ∧ (0 ≤ x2 ∧ x2 < 60) ∧ Runs miX12_isSide d [.ref 53, I_ (g 67 x1.toNat), I_ (g 67 x2.toNat)] n (W0 dy) g (fun v n' S' g' => V miX12_isLike (d + 1) 140 [(0, .ref 53), (1, I_ x1), (2, I_ x2)] (v.toList ++ []) n' S' g' 0 0 P))) : V miX12_isLike (d + 1) 121 [(0, .ref 53), (1, I_ x1), (2, I_ x2)] [I_ xs0] n (W0 dy) g 0 0 P := by
  have c1 := h.1
  have h := h.2
  refine v_if_eq 77 rfl (tgt := 145) rfl c1 (fun q8 => ?_) (fun q8 => ?_)
  · have h := h.1 q8
    exact h
  · have h := h.2 q8
    refine v_aload_n 78 0 rfl rfl rfl ?_
    refine v_aload_n 79 0 rfl rfl rfl ?_
    refine v_gK 80 rfl fl12_50_11.r (al 53 rfl hn) (wk53 dy) (by decide) rfl (r := 67) (wc53_16 dy) ?_
    refine v_iload_n 81 1 rfl rfl rfl ?_
    have c2 := h.1
    have h := h.2
    refine v_ia (N := 60) 82 rfl (al 67 rfl hn) (wk67 dy) (wn67 dy) (by decide) c2 (y := g 67 x1.toNat) rfl ?_
    refine v_rng fun w3 => ?_
    have r4 : i3 (g 67 x1.toNat) := rI w3 (q := x1.toNat) (al 67 rfl hn) (wk67 dy) rfl rfl
    refine v_aload_n 83 0 rfl rfl rfl ?_
    refine v_gK 84 rfl fl12_50_11.r (al 53 rfl hn) (wk53 dy) (by decide) rfl (r := 67) (wc53_16 dy) ?_
    refine v_iload_n 85 2 rfl rfl rfl ?_
    have c5 := h.1
    have h := h.2
    refine v_ia (N := 60) 86 rfl (al 67 rfl hn) (wk67 dy) (wn67 dy) (by decide) c5 (y := g 67 x2.toNat) rfl ?_
    refine v_rng fun w6 => ?_
    have r7 : i3 (g 67 x2.toNat) := rI w6 (q := x2.toNat) (al 67 rfl hn) (wk67 dy) rfl rfl
    refine v_callV (st := []) [I_ (g 67 x1.toNat), I_ (g 67 x2.toNat)] 87 rfl lv12_375_isLike_11 (al 53 rfl hn) (wk53 dy) (by decide) rfl (Nat.le_refl _) (Nat.le_refl _) ?_
    exact h
set_option maxHeartbeats 8000000 in
set_option maxRecDepth 4000 in
theorem bX12_isLike_140 {d n : Nat} {dy : Nat → Shp} {g : Hp} {P : Pst} {x1 : Int} {x2 : Int} {xs0 : Int} (hn : 100 ≤ n) (h : (i3 xs0) ∧ ((xs0 = 0) → V miX12_isLike (d + 1) 145 [(0, .ref 53), (1, I_ x1), (2, I_ x2)] [] n (W0 dy) g 0 0 P) ∧ ((xs0 ≠ 0) → P (some (I_ 1)) n (W0 dy) g)) : V miX12_isLike (d + 1) 140 [(0, .ref 53), (1, I_ x1), (2, I_ x2)] [I_ xs0] n (W0 dy) g 0 0 P := by
  have c1 := h.1
  have h := h.2
  refine v_if_eq 88 rfl (tgt := 145) rfl c1 (fun q2 => ?_) (fun q2 => ?_)
  · have h := h.1 q2
    exact h
  · have h := h.2 q2
    refine v_iconst 89 rfl ?_
    exact v_ret (v := some (I_ 1)) 90 rfl (Nat.zero_le _) (Nat.zero_le _) (Or.inr rfl) rfl h
set_option maxHeartbeats 8000000 in
set_option maxRecDepth 4000 in
theorem bX12_isLike_145 {d n : Nat} {dy : Nat → Shp} {g : Hp} {P : Pst} {x1 : Int} {x2 : Int} (hn : 100 ≤ n) (h : (0 ≤ x1 ∧ x1 < 60) ∧ (0 ≤ x2 ∧ x2 < 60) ∧ (i6 ((g 64 x1.toNat) * (g 65 x2.toNat))) ∧ (i6 (((g 65 x2.toNat) - (g 64 x2.toNat)) * (g 65 x1.toNat))) ∧ ((((g 64 x1.toNat) * (g 65 x2.toNat)) ≠ (((g 65 x2.toNat) - (g 64 x2.toNat)) * (g 65 x1.toNat))) → V miX12_isLike (d + 1) 224 [(0, .ref 53), (1, I_ x1), (2, I_ x2)] [] n (W0 dy) g 0 0 P) ∧ ((((g 64 x1.toNat) * (g 65 x2.toNat)) = (((g 65 x2.toNat) - (g 64 x2.toNat)) * (g 65 x1.toNat))) → Runs miX12_isSide d [.ref 53, I_ (g 66 x1.toNat), I_ (g 67 x2.toNat)] n (W0 dy) g (fun v n' S' g' => V miX12_isLike (d + 1) 198 [(0, .ref 53), (1, I_ x1), (2, I_ x2)] (v.toList ++ []) n' S' g' 0 0 P))) : V miX12_isLike (d + 1) 145 [(0, .ref 53), (1, I_ x1), (2, I_ x2)] [] n (W0 dy) g 0 0 P := by
  refine v_aload_n 91 0 rfl rfl rfl ?_
  refine v_gK 92 rfl fl12_41_11.r (al 53 rfl hn) (wk53 dy) (by decide) rfl (r := 64) (wc53_13 dy) ?_
  refine v_iload_n 93 1 rfl rfl rfl ?_
  have c1 := h.1
  have h := h.2
  refine v_la (N := 60) 94 rfl (al 64 rfl hn) (wk64 dy) (wn64 dy) (by decide) c1 (y := g 64 x1.toNat) rfl ?_
  refine v_rng fun w2 => ?_
  have r3 : i6 (g 64 x1.toNat) := rL w2 (q := x1.toNat) (al 64 rfl hn) (wk64 dy) rfl rfl
  refine v_aload_n 95 0 rfl rfl rfl ?_
  refine v_gK 96 rfl fl12_44_11.r (al 53 rfl hn) (wk53 dy) (by decide) rfl (r := 65) (wc53_14 dy) ?_
  refine v_iload_n 97 2 rfl rfl rfl ?_
  have c4 := h.1
  have h := h.2
  refine v_la (N := 60) 98 rfl (al 65 rfl hn) (wk65 dy) (wn65 dy) (by decide) c4 (y := g 65 x2.toNat) rfl ?_
  refine v_rng fun w5 => ?_
  have r6 : i6 (g 65 x2.toNat) := rL w5 (q := x2.toNat) (al 65 rfl hn) (wk65 dy) rfl rfl
  refine v_lmul 99 rfl ?_
  refine v_aload_n 100 0 rfl rfl rfl ?_
  refine v_gK 101 rfl fl12_44_11.r (al 53 rfl hn) (wk53 dy) (by decide) rfl (r := 65) (wc53_14 dy) ?_
  refine v_iload_n 102 2 rfl rfl rfl ?_
  refine v_la (N := 60) 103 rfl (al 65 rfl hn) (wk65 dy) (wn65 dy) (by decide) c4 (y := g 65 x2.toNat) rfl ?_
  refine v_rng fun w7 => ?_
  have r8 : i6 (g 65 x2.toNat) := rL w7 (q := x2.toNat) (al 65 rfl hn) (wk65 dy) rfl rfl
  refine v_aload_n 104 0 rfl rfl rfl ?_
  refine v_gK 105 rfl fl12_41_11.r (al 53 rfl hn) (wk53 dy) (by decide) rfl (r := 64) (wc53_13 dy) ?_
  refine v_iload_n 106 2 rfl rfl rfl ?_
  refine v_la (N := 60) 107 rfl (al 64 rfl hn) (wk64 dy) (wn64 dy) (by decide) c4 (y := g 64 x2.toNat) rfl ?_
  refine v_rng fun w9 => ?_
  have r10 : i6 (g 64 x2.toNat) := rL w9 (q := x2.toNat) (al 64 rfl hn) (wk64 dy) rfl rfl
  refine v_lsub 108 rfl ?_
  refine v_aload_n 109 0 rfl rfl rfl ?_
  refine v_gK 110 rfl fl12_44_11.r (al 53 rfl hn) (wk53 dy) (by decide) rfl (r := 65) (wc53_14 dy) ?_
  refine v_iload_n 111 1 rfl rfl rfl ?_
  refine v_la (N := 60) 112 rfl (al 65 rfl hn) (wk65 dy) (wn65 dy) (by decide) c1 (y := g 65 x1.toNat) rfl ?_
  refine v_rng fun w11 => ?_
  have r12 : i6 (g 65 x1.toNat) := rL w11 (q := x1.toNat) (al 65 rfl hn) (wk65 dy) rfl rfl
  refine v_lmul 113 rfl ?_
  have c13 := h.1
  have h := h.2
  have c14 := h.1
  have h := h.2
  refine v_lif_ne 114 rfl rfl (tgt := 224) rfl c13 c14 (fun q19 => ?_) (fun q19 => ?_)
  · have h := h.1 q19
    exact h
  · have h := h.2 q19
    refine v_aload_n 116 0 rfl rfl rfl ?_
    refine v_aload_n 117 0 rfl rfl rfl ?_
    refine v_gK 118 rfl fl12_47_11.r (al 53 rfl hn) (wk53 dy) (by decide) rfl (r := 66) (wc53_15 dy) ?_
    refine v_iload_n 119 1 rfl rfl rfl ?_
    refine v_ia (N := 60) 120 rfl (al 66 rfl hn) (wk66 dy) (wn66 dy) (by decide) c1 (y := g 66 x1.toNat) rfl ?_
    refine v_rng fun w15 => ?_
    have r16 : i3 (g 66 x1.toNat) := rI w15 (q := x1.toNat) (al 66 rfl hn) (wk66 dy) rfl rfl
    refine v_aload_n 121 0 rfl rfl rfl ?_
    refine v_gK 122 rfl fl12_50_11.r (al 53 rfl hn) (wk53 dy) (by decide) rfl (r := 67) (wc53_16 dy) ?_
    refine v_iload_n 123 2 rfl rfl rfl ?_
    refine v_ia (N := 60) 124 rfl (al 67 rfl hn) (wk67 dy) (wn67 dy) (by decide) c4 (y := g 67 x2.toNat) rfl ?_
    refine v_rng fun w17 => ?_
    have r18 : i3 (g 67 x2.toNat) := rI w17 (q := x2.toNat) (al 67 rfl hn) (wk67 dy) rfl rfl
    refine v_callV (st := []) [I_ (g 66 x1.toNat), I_ (g 67 x2.toNat)] 125 rfl lv12_375_isLike_11 (al 53 rfl hn) (wk53 dy) (by decide) rfl (Nat.le_refl _) (Nat.le_refl _) ?_
    exact h
set_option maxHeartbeats 8000000 in
set_option maxRecDepth 4000 in
theorem bX12_isLike_198 {d n : Nat} {dy : Nat → Shp} {g : Hp} {P : Pst} {x1 : Int} {x2 : Int} {xs0 : Int} (hn : 100 ≤ n) (h : (i3 xs0) ∧ ((xs0 = 0) → V miX12_isLike (d + 1) 224 [(0, .ref 53), (1, I_ x1), (2, I_ x2)] [] n (W0 dy) g 0 0 P) ∧ ((xs0 ≠ 0) → (0 ≤ x1 ∧ x1 < 60) ∧ (0 ≤ x2 ∧ x2 < 60) ∧ Runs miX12_isSide d [.ref 53, I_ (g 67 x1.toNat), I_ (g 66 x2.toNat)] n (W0 dy) g (fun v n' S' g' => V miX12_isLike (d + 1) 217 [(0, .ref 53), (1, I_ x1), (2, I_ x2)] (v.toList ++ []) n' S' g' 0 0 P))) : V miX12_isLike (d + 1) 198 [(0, .ref 53), (1, I_ x1), (2, I_ x2)] [I_ xs0] n (W0 dy) g 0 0 P := by
  have c1 := h.1
  have h := h.2
  refine v_if_eq 126 rfl (tgt := 224) rfl c1 (fun q8 => ?_) (fun q8 => ?_)
  · have h := h.1 q8
    exact h
  · have h := h.2 q8
    refine v_aload_n 127 0 rfl rfl rfl ?_
    refine v_aload_n 128 0 rfl rfl rfl ?_
    refine v_gK 129 rfl fl12_50_11.r (al 53 rfl hn) (wk53 dy) (by decide) rfl (r := 67) (wc53_16 dy) ?_
    refine v_iload_n 130 1 rfl rfl rfl ?_
    have c2 := h.1
    have h := h.2
    refine v_ia (N := 60) 131 rfl (al 67 rfl hn) (wk67 dy) (wn67 dy) (by decide) c2 (y := g 67 x1.toNat) rfl ?_
    refine v_rng fun w3 => ?_
    have r4 : i3 (g 67 x1.toNat) := rI w3 (q := x1.toNat) (al 67 rfl hn) (wk67 dy) rfl rfl
    refine v_aload_n 132 0 rfl rfl rfl ?_
    refine v_gK 133 rfl fl12_47_11.r (al 53 rfl hn) (wk53 dy) (by decide) rfl (r := 66) (wc53_15 dy) ?_
    refine v_iload_n 134 2 rfl rfl rfl ?_
    have c5 := h.1
    have h := h.2
    refine v_ia (N := 60) 135 rfl (al 66 rfl hn) (wk66 dy) (wn66 dy) (by decide) c5 (y := g 66 x2.toNat) rfl ?_
    refine v_rng fun w6 => ?_
    have r7 : i3 (g 66 x2.toNat) := rI w6 (q := x2.toNat) (al 66 rfl hn) (wk66 dy) rfl rfl
    refine v_callV (st := []) [I_ (g 67 x1.toNat), I_ (g 66 x2.toNat)] 136 rfl lv12_375_isLike_11 (al 53 rfl hn) (wk53 dy) (by decide) rfl (Nat.le_refl _) (Nat.le_refl _) ?_
    exact h
set_option maxHeartbeats 8000000 in
set_option maxRecDepth 4000 in
theorem bX12_isLike_217 {d n : Nat} {dy : Nat → Shp} {g : Hp} {P : Pst} {x1 : Int} {x2 : Int} {xs0 : Int} (hn : 100 ≤ n) (h : (i3 xs0) ∧ ((xs0 = 0) → V miX12_isLike (d + 1) 224 [(0, .ref 53), (1, I_ x1), (2, I_ x2)] [] n (W0 dy) g 0 0 P) ∧ ((xs0 ≠ 0) → V miX12_isLike (d + 1) 225 [(0, .ref 53), (1, I_ x1), (2, I_ x2)] [I_ 1] n (W0 dy) g 0 0 P)) : V miX12_isLike (d + 1) 217 [(0, .ref 53), (1, I_ x1), (2, I_ x2)] [I_ xs0] n (W0 dy) g 0 0 P := by
  have c1 := h.1
  have h := h.2
  refine v_if_eq 137 rfl (tgt := 224) rfl c1 (fun q2 => ?_) (fun q2 => ?_)
  · have h := h.1 q2
    exact h
  · have h := h.2 q2
    refine v_iconst 138 rfl ?_
    refine v_goto 139 rfl (tgt := 225) rfl ?_
    exact h
set_option maxHeartbeats 8000000 in
set_option maxRecDepth 4000 in
theorem bX12_isLike_224 {d n : Nat} {dy : Nat → Shp} {g : Hp} {P : Pst} {x1 : Int} {x2 : Int} (hn : 100 ≤ n) (h : V miX12_isLike (d + 1) 225 [(0, .ref 53), (1, I_ x1), (2, I_ x2)] [I_ 0] n (W0 dy) g 0 0 P) : V miX12_isLike (d + 1) 224 [(0, .ref 53), (1, I_ x1), (2, I_ x2)] [] n (W0 dy) g 0 0 P := by
  refine v_iconst 140 rfl ?_
  exact h
set_option maxHeartbeats 8000000 in
set_option maxRecDepth 4000 in
theorem bX12_isLike_225 {d n : Nat} {dy : Nat → Shp} {g : Hp} {P : Pst} {x1 : Int} {x2 : Int} {xs0 : Int} (hn : 100 ≤ n) (h : (xs0 = 0 ∨ xs0 = 1) ∧ P (some (I_ xs0)) n (W0 dy) g) : V miX12_isLike (d + 1) 225 [(0, .ref 53), (1, I_ x1), (2, I_ x2)] [I_ xs0] n (W0 dy) g 0 0 P := by
  have c1 := h.1
  have h := h.2
  exact v_ret (v := some (I_ xs0)) 141 rfl (Nat.zero_le _) (Nat.zero_le _) (rokZ c1) rfl h
theorem lv12_274_same_11 : LkV miX12_same miX12_topped 274 1 11 := ⟨⟨⟨tbG_in (List.mem_append_right _ (List.mem_of_getElem? (i := 1501) (by decide +kernel))) rfl, tbG_in (List.mem_append_right _ (List.mem_of_getElem? (i := 9) (by decide +kernel))) rfl, tbG_in (List.mem_append_right _ (List.mem_of_getElem? (i := 1498) (by decide +kernel))) rfl⟩, ⟨by decide +kernel, by decide +kernel, by decide +kernel⟩, by decide⟩, tbG_in (List.mem_append_right _ (List.mem_of_getElem? (i := 1500) (by decide +kernel))) rfl, RX12, TX12, 58, rfl, tbG_in (List.mem_append_left _ (List.mem_of_getElem? (i := 70) (by decide +kernel))) rfl⟩
theorem ls12_193_same : LkS miX12_same miJ9_max_7cf53 193 2 := ⟨⟨⟨tbG_in (List.mem_append_right _ (List.mem_of_getElem? (i := 537) (by decide +kernel))) rfl, tbG_in (List.mem_append_right _ (List.mem_of_getElem? (i := 15) (by decide +kernel))) rfl, tbG_in (List.mem_append_right _ (List.mem_of_getElem? (i := 1380) (by decide +kernel))) rfl⟩, ⟨by decide +kernel, by decide +kernel, by decide +kernel⟩, by decide⟩, tbG_in (List.mem_append_right _ (List.mem_of_getElem? (i := 536) (by decide +kernel))) rfl⟩
theorem lv12_252_same_11 : LkV miX12_same miX12_orders 252 0 11 := ⟨⟨⟨tbG_in (List.mem_append_right _ (List.mem_of_getElem? (i := 1469) (by decide +kernel))) rfl, tbG_in (List.mem_append_right _ (List.mem_of_getElem? (i := 9) (by decide +kernel))) rfl, tbG_in (List.mem_append_right _ (List.mem_of_getElem? (i := 1466) (by decide +kernel))) rfl⟩, ⟨by decide +kernel, by decide +kernel, by decide +kernel⟩, by decide⟩, tbG_in (List.mem_append_right _ (List.mem_of_getElem? (i := 1468) (by decide +kernel))) rfl, RX12, TX12, 58, rfl, tbG_in (List.mem_append_left _ (List.mem_of_getElem? (i := 64) (by decide +kernel))) rfl⟩
theorem lv12_378_same_11 : LkV miX12_same miX12_isLike 378 2 11 := ⟨⟨⟨tbG_in (List.mem_append_right _ (List.mem_of_getElem? (i := 1648) (by decide +kernel))) rfl, tbG_in (List.mem_append_right _ (List.mem_of_getElem? (i := 9) (by decide +kernel))) rfl, tbG_in (List.mem_append_right _ (List.mem_of_getElem? (i := 1645) (by decide +kernel))) rfl⟩, ⟨by decide +kernel, by decide +kernel, by decide +kernel⟩, by decide⟩, tbG_in (List.mem_append_right _ (List.mem_of_getElem? (i := 1647) (by decide +kernel))) rfl, RX12, TX12, 58, rfl, tbG_in (List.mem_append_left _ (List.mem_of_getElem? (i := 92) (by decide +kernel))) rfl⟩
set_option maxHeartbeats 8000000 in
set_option maxRecDepth 4000 in
theorem bX12_same_0 {d n : Nat} {dy : Nat → Shp} {g : Hp} {P : Pst} {x1 : Int} {x2 : Int} (hn : 100 ≤ n) (h : Runs miX12_topped d [.ref 53, I_ x1] n (W0 dy) (up2 g 53 1 0) (fun v n' S' g' => V miX12_same (d + 1) 11 [(0, .ref 53), (1, I_ x1), (2, I_ x2)] (v.toList ++ [.ref 53]) n' S' g' 0 0 P)) : V miX12_same (d + 1) 0 [(0, .ref 53), (1, I_ x1), (2, I_ x2)] [] n (W0 dy) g 0 0 P := by
  refine v_aload_n 0 0 rfl rfl rfl ?_
  refine v_iconst 1 rfl ?_
  refine v_putI 2 rfl fl12_148_11 (al 53 rfl hn) (wk53 dy) (by decide) rfl (wc53_1 dy) (by decide) ?_
  refine v_aload_n 3 0 rfl rfl rfl ?_
  refine v_aload_n 4 0 rfl rfl rfl ?_
  refine v_iload_n 5 1 rfl rfl rfl ?_
  refine v_callV (st := [.ref 53]) [I_ x1] 6 rfl lv12_274_same_11 (al 53 rfl hn) (wk53 dy) (by decide) rfl (Nat.le_refl _) (Nat.le_refl _) ?_
  exact h
set_option maxHeartbeats 8000000 in
set_option maxRecDepth 4000 in
theorem bX12_same_11 {d n : Nat} {dy : Nat → Shp} {g : Hp} {P : Pst} {x1 : Int} {x2 : Int} {xs1 : Int} (hn : 100 ≤ n) (h : (i3 xs1) ∧ ((xs1 = 2) → V miX12_same (d + 1) 24 [(0, .ref 53), (1, I_ x1), (2, I_ x2)] [.ref 53] n (W0 dy) g 0 0 P) ∧ ((xs1 ≠ 2) → Runs miX12_topped d [.ref 53, I_ x2] n (W0 dy) g (fun v n' S' g' => V miX12_same (d + 1) 20 [(0, .ref 53), (1, I_ x1), (2, I_ x2)] (v.toList ++ [.ref 53]) n' S' g' 0 0 P))) : V miX12_same (d + 1) 11 [(0, .ref 53), (1, I_ x1), (2, I_ x2)] [I_ xs1, .ref 53] n (W0 dy) g 0 0 P := by
  refine v_iconst 7 rfl ?_
  have c1 := h.1
  have h := h.2
  refine v_icmp_eq 8 rfl (tgt := 24) rfl c1 (by decide) (fun q2 => ?_) (fun q2 => ?_)
  · have h := h.1 q2
    exact h
  · have h := h.2 q2
    refine v_aload_n 9 0 rfl rfl rfl ?_
    refine v_iload_n 10 2 rfl rfl rfl ?_
    refine v_callV (st := [.ref 53]) [I_ x2] 11 rfl lv12_274_same_11 (al 53 rfl hn) (wk53 dy) (by decide) rfl (Nat.le_refl _) (Nat.le_refl _) ?_
    exact h
set_option maxHeartbeats 8000000 in
set_option maxRecDepth 4000 in
theorem bX12_same_20 {d n : Nat} {dy : Nat → Shp} {g : Hp} {P : Pst} {x1 : Int} {x2 : Int} {xs1 : Int} (hn : 100 ≤ n) (h : (i3 xs1) ∧ ((xs1 ≠ 2) → Runs miX12_topped d [.ref 53, I_ x1] n (W0 dy) g (fun v n' S' g' => V miX12_same (d + 1) 33 [(0, .ref 53), (1, I_ x1), (2, I_ x2)] (v.toList ++ [.ref 53]) n' S' g' 0 0 P)) ∧ ((xs1 = 2) → V miX12_same (d + 1) 24 [(0, .ref 53), (1, I_ x1), (2, I_ x2)] [.ref 53] n (W0 dy) g 0 0 P)) : V miX12_same (d + 1) 20 [(0, .ref 53), (1, I_ x1), (2, I_ x2)] [I_ xs1, .ref 53] n (W0 dy) g 0 0 P := by
  refine v_iconst 12 rfl ?_
  have c1 := h.1
  have h := h.2
  refine v_icmp_ne 13 rfl (tgt := 28) rfl c1 (by decide) (fun q2 => ?_) (fun q2 => ?_)
  · have h := h.1 q2
    refine v_aload_n 16 0 rfl rfl rfl ?_
    refine v_iload_n 17 1 rfl rfl rfl ?_
    refine v_callV (st := [.ref 53]) [I_ x1] 18 rfl lv12_274_same_11 (al 53 rfl hn) (wk53 dy) (by decide) rfl (Nat.le_refl _) (Nat.le_refl _) ?_
    exact h
  · have h := h.2 q2
    exact h
set_option maxHeartbeats 8000000 in
set_option maxRecDepth 4000 in
theorem bX12_same_24 {d n : Nat} {dy : Nat → Shp} {g : Hp} {P : Pst} {x1 : Int} {x2 : Int} (hn : 100 ≤ n) (h : V miX12_same (d + 1) 41 [(0, .ref 53), (1, I_ x1), (2, I_ x2)] [I_ 2, .ref 53] n (W0 dy) g 0 0 P) : V miX12_same (d + 1) 24 [(0, .ref 53), (1, I_ x1), (2, I_ x2)] [.ref 53] n (W0 dy) g 0 0 P := by
  refine v_iconst 14 rfl ?_
  refine v_goto 15 rfl (tgt := 41) rfl ?_
  exact h
set_option maxHeartbeats 8000000 in
set_option maxRecDepth 4000 in
theorem bX12_same_33 {d n : Nat} {dy : Nat → Shp} {g : Hp} {P : Pst} {x1 : Int} {x2 : Int} {xs1 : Int} (hn : 100 ≤ n) (h : Runs miX12_topped d [.ref 53, I_ x2] n (W0 dy) g (fun v n' S' g' => V miX12_same (d + 1) 38 [(0, .ref 53), (1, I_ x1), (2, I_ x2)] (v.toList ++ [I_ xs1, .ref 53]) n' S' g' 0 0 P)) : V miX12_same (d + 1) 33 [(0, .ref 53), (1, I_ x1), (2, I_ x2)] [I_ xs1, .ref 53] n (W0 dy) g 0 0 P := by
  refine v_aload_n 19 0 rfl rfl rfl ?_
  refine v_iload_n 20 2 rfl rfl rfl ?_
  refine v_callV (st := [I_ xs1, .ref 53]) [I_ x2] 21 rfl lv12_274_same_11 (al 53 rfl hn) (wk53 dy) (by decide) rfl (Nat.le_refl _) (Nat.le_refl _) ?_
  exact h
set_option maxHeartbeats 8000000 in
set_option maxRecDepth 4000 in
theorem bX12_same_38 {d n : Nat} {dy : Nat → Shp} {g : Hp} {P : Pst} {x1 : Int} {x2 : Int} {xs1 : Int} {xs2 : Int} (hn : 100 ≤ n) (h : Runs miJ9_max_7cf53 d [I_ xs1, I_ xs2] n (W0 dy) g (fun v n' S' g' => V miX12_same (d + 1) 41 [(0, .ref 53), (1, I_ x1), (2, I_ x2)] (v.toList ++ [.ref 53]) n' S' g' 0 0 P)) : V miX12_same (d + 1) 38 [(0, .ref 53), (1, I_ x1), (2, I_ x2)] [I_ xs2, I_ xs1, .ref 53] n (W0 dy) g 0 0 P := by
  refine v_callS (st := [.ref 53]) [I_ xs1, I_ xs2] 22 rfl ls12_193_same rfl (Nat.lt_of_lt_of_le (by decide) hn) (Nat.le_refl _) (Nat.le_refl _) ?_
  exact h
set_option maxHeartbeats 8000000 in
set_option maxRecDepth 4000 in
theorem bX12_same_41 {d n : Nat} {dy : Nat → Shp} {g : Hp} {P : Pst} {x1 : Int} {x2 : Int} {xs1 : Int} (hn : 100 ≤ n) (h : (i3 xs1) ∧ ((xs1 ≤ 0) → Runs miX12_orders d [.ref 53] n (W0 dy) (up2 g 53 0 xs1) (fun v n' S' g' => V miX12_same (d + 1) 57 [(0, .ref 53), (1, I_ x1), (2, I_ x2)] (v.toList ++ []) n' S' g' 0 0 P)) ∧ ((0 < xs1) → P (some (I_ ((-1)))) n (W0 dy) (up2 g 53 0 xs1))) : V miX12_same (d + 1) 41 [(0, .ref 53), (1, I_ x1), (2, I_ x2)] [I_ xs1, .ref 53] n (W0 dy) g 0 0 P := by
  have c1 := h.1
  have h := h.2
  refine v_putI 23 rfl fl12_152_11 (al 53 rfl hn) (wk53 dy) (by decide) rfl (wc53_0 dy) c1 ?_
  refine v_aload_n 24 0 rfl rfl rfl ?_
  refine v_gI 25 rfl fl12_152_11.r (al 53 rfl hn) (wk53 dy) (by decide) rfl (wc53_0 dy) (x := xs1) rfl ?_
  refine v_rng fun w2 => ?_
  have r3 : i3 (xs1) := rI w2 (q := 0) (al 53 rfl hn) (wk53 dy) rfl rfl
  refine v_if_le 26 rfl (tgt := 53) rfl r3 (fun q4 => ?_) (fun q4 => ?_)
  · have h := h.1 q4
    refine v_aload_n 29 0 rfl rfl rfl ?_
    refine v_callV (st := []) [] 30 rfl lv12_252_same_11 (al 53 rfl hn) (wk53 dy) (by decide) rfl (Nat.le_refl _) (Nat.le_refl _) ?_
    exact h
  · have h := h.2 q4
    refine v_iconst 27 rfl ?_
    exact v_ret (v := some (I_ ((-1)))) 28 rfl (Nat.zero_le _) (Nat.zero_le _) trivial rfl h
set_option maxHeartbeats 8000000 in
set_option maxRecDepth 4000 in
theorem bX12_same_57 {d n : Nat} {dy : Nat → Shp} {g : Hp} {P : Pst} {x1 : Int} {x2 : Int} (hn : 100 ≤ n) (h : V miX12_same (d + 1) 59 [(0, .ref 53), (1, I_ x1), (2, I_ x2), (3, I_ 0)] [] n (W0 dy) g 0 0 P) : V miX12_same (d + 1) 57 [(0, .ref 53), (1, I_ x1), (2, I_ x2)] [] n (W0 dy) g 0 0 P := by
  refine v_iconst 31 rfl ?_
  refine v_istore_n 32 [1, 2, 3, 0] rfl rfl (by decide) rfl ?_
  exact h
set_option maxHeartbeats 8000000 in
set_option maxRecDepth 4000 in
theorem bX12_same_59 {d n : Nat} {dy : Nat → Shp} {g : Hp} {P : Pst} {x1 : Int} {x2 : Int} {x3 : Int} (hn : 100 ≤ n) (h : (i3 x3) ∧ (((g 53 5) ≤ x3) → (0 ≤ x1 ∧ x1 < 60) ∧ (0 ≤ x2 ∧ x2 < 60) ∧ (((g 73 x1.toNat) ≠ (g 73 x2.toNat)) → V miX12_same (d + 1) 162 [(0, .ref 53), (1, I_ x1), (2, I_ x2), (3, I_ x3)] [I_ 0] n (W0 dy) g 0 0 P) ∧ (((g 73 x1.toNat) = (g 73 x2.toNat)) → V miX12_same (d + 1) 162 [(0, .ref 53), (1, I_ x1), (2, I_ x2), (3, I_ x3)] [I_ 1] n (W0 dy) g 0 0 P)) ∧ ((x3 < (g 53 5)) → (0 ≤ x3 ∧ x3 < 60) ∧ V miX12_same (d + 1) 78 [(0, .ref 53), (1, I_ x1), (2, I_ x2), (3, I_ x3), (4, I_ (g 71 x3.toNat)), (5, I_ 0)] [] n (W0 dy) g 0 0 P)) : V miX12_same (d + 1) 59 [(0, .ref 53), (1, I_ x1), (2, I_ x2), (3, I_ x3)] [] n (W0 dy) g 0 0 P := by
  refine v_iload_n 33 3 rfl rfl rfl ?_
  refine v_aload_n 34 0 rfl rfl rfl ?_
  refine v_gI 35 rfl fl12_169_11.r (al 53 rfl hn) (wk53 dy) (by decide) rfl (wc53_5 dy) (x := g 53 5) rfl ?_
  refine v_rng fun w1 => ?_
  have r2 : i3 (g 53 5) := rI w1 (q := 5) (al 53 rfl hn) (wk53 dy) rfl rfl
  have c3 := h.1
  have h := h.2
  refine v_icmp_ge 36 rfl (tgt := 142) rfl c3 r2 (fun q14 => ?_) (fun q14 => ?_)
  · have h := h.1 q14
    refine v_aload_n 75 0 rfl rfl rfl ?_
    refine v_gK 76 rfl fl12_68_11.r (al 53 rfl hn) (wk53 dy) (by decide) rfl (r := 73) (wc53_22 dy) ?_
    refine v_iload_n 77 1 rfl rfl rfl ?_
    have c4 := h.1
    have h := h.2
    refine v_ia (N := 60) 78 rfl (al 73 rfl hn) (wk73 dy) (wn73 dy) (by decide) c4 (y := g 73 x1.toNat) rfl ?_
    refine v_rng fun w5 => ?_
    have r6 : i3 (g 73 x1.toNat) := rI w5 (q := x1.toNat) (al 73 rfl hn) (wk73 dy) rfl rfl
    refine v_aload_n 79 0 rfl rfl rfl ?_
    refine v_gK 80 rfl fl12_68_11.r (al 53 rfl hn) (wk53 dy) (by decide) rfl (r := 73) (wc53_22 dy) ?_
    refine v_iload_n 81 2 rfl rfl rfl ?_
    have c7 := h.1
    have h := h.2
    refine v_ia (N := 60) 82 rfl (al 73 rfl hn) (wk73 dy) (wn73 dy) (by decide) c7 (y := g 73 x2.toNat) rfl ?_
    refine v_rng fun w8 => ?_
    have r9 : i3 (g 73 x2.toNat) := rI w8 (q := x2.toNat) (al 73 rfl hn) (wk73 dy) rfl rfl
    refine v_icmp_ne 83 rfl (tgt := 161) rfl r6 r9 (fun q10 => ?_) (fun q10 => ?_)
    · have h := h.1 q10
      refine v_iconst 86 rfl ?_
      exact h
    · have h := h.2 q10
      refine v_iconst 84 rfl ?_
      refine v_goto 85 rfl (tgt := 162) rfl ?_
      exact h
  · have h := h.2 q14
    refine v_aload_n 37 0 rfl rfl rfl ?_
    refine v_gK 38 rfl fl12_62_11.r (al 53 rfl hn) (wk53 dy) (by decide) rfl (r := 71) (wc53_20 dy) ?_
    refine v_iload_n 39 3 rfl rfl rfl ?_
    have c11 := h.1
    have h := h.2
    refine v_ia (N := 60) 40 rfl (al 71 rfl hn) (wk71 dy) (wn71 dy) (by decide) c11 (y := g 71 x3.toNat) rfl ?_
    refine v_rng fun w12 => ?_
    have r13 : i3 (g 71 x3.toNat) := rI w12 (q := x3.toNat) (al 71 rfl hn) (wk71 dy) rfl rfl
    refine v_istore 41 [1, 2, 3, 4, 0] rfl (by decide) rfl ?_
    refine v_iconst 42 rfl ?_
    refine v_istore 43 [1, 2, 3, 4, 5, 0] rfl (by decide) rfl ?_
    exact h
set_option maxHeartbeats 8000000 in
set_option maxRecDepth 4000 in
theorem bX12_same_78 {d n : Nat} {dy : Nat → Shp} {g : Hp} {P : Pst} {x1 : Int} {x2 : Int} {x3 : Int} {x4 : Int} {x5 : Int} (hn : 100 ≤ n) (h : (i3 x5) ∧ (i3 x3) ∧ ((x3 ≤ x5) → V miX12_same (d + 1) 106 [(0, .ref 53), (1, I_ x1), (2, I_ x2), (3, I_ x3), (4, I_ x4), (5, I_ x5)] [] n (W0 dy) g 0 0 P) ∧ ((x5 < x3) → (0 ≤ x5 ∧ x5 < 60) ∧ Runs miX12_isLike d [.ref 53, I_ (g 71 x5.toNat), I_ x4] n (W0 dy) g (fun v n' S' g' => V miX12_same (d + 1) 97 [(0, .ref 53), (1, I_ x1), (2, I_ x2), (3, I_ x3), (4, I_ x4), (5, I_ x5)] (v.toList ++ []) n' S' g' 0 0 P))) : V miX12_same (d + 1) 78 [(0, .ref 53), (1, I_ x1), (2, I_ x2), (3, I_ x3), (4, I_ x4), (5, I_ x5)] [] n (W0 dy) g 0 0 P := by
  refine v_iload 44 5 rfl rfl ?_
  refine v_iload_n 45 3 rfl rfl rfl ?_
  have c1 := h.1
  have h := h.2
  have c2 := h.1
  have h := h.2
  refine v_icmp_ge 46 rfl (tgt := 106) rfl c1 c2 (fun q6 => ?_) (fun q6 => ?_)
  · have h := h.1 q6
    exact h
  · have h := h.2 q6
    refine v_aload_n 47 0 rfl rfl rfl ?_
    refine v_aload_n 48 0 rfl rfl rfl ?_
    refine v_gK 49 rfl fl12_62_11.r (al 53 rfl hn) (wk53 dy) (by decide) rfl (r := 71) (wc53_20 dy) ?_
    refine v_iload 50 5 rfl rfl ?_
    have c3 := h.1
    have h := h.2
    refine v_ia (N := 60) 51 rfl (al 71 rfl hn) (wk71 dy) (wn71 dy) (by decide) c3 (y := g 71 x5.toNat) rfl ?_
    refine v_rng fun w4 => ?_
    have r5 : i3 (g 71 x5.toNat) := rI w4 (q := x5.toNat) (al 71 rfl hn) (wk71 dy) rfl rfl
    refine v_iload 52 4 rfl rfl ?_
    refine v_callV (st := []) [I_ (g 71 x5.toNat), I_ x4] 53 rfl lv12_378_same_11 (al 53 rfl hn) (wk53 dy) (by decide) rfl (Nat.le_refl _) (Nat.le_refl _) ?_
    exact h
set_option maxHeartbeats 8000000 in
set_option maxRecDepth 4000 in
theorem bX12_same_97 {d n : Nat} {dy : Nat → Shp} {g : Hp} {P : Pst} {x1 : Int} {x2 : Int} {x3 : Int} {x4 : Int} {x5 : Int} {xs0 : Int} (hn : 100 ≤ n) (h : (i3 xs0) ∧ ((xs0 ≠ 0) → V miX12_same (d + 1) 106 [(0, .ref 53), (1, I_ x1), (2, I_ x2), (3, I_ x3), (4, I_ x4), (5, I_ x5)] [] n (W0 dy) g 0 0 P) ∧ ((xs0 = 0) → V miX12_same (d + 1) 78 [(0, .ref 53), (1, I_ x1), (2, I_ x2), (3, I_ x3), (4, I_ x4), (5, I_ (x5 + 1))] [] n (W0 dy) g 0 0 P)) : V miX12_same (d + 1) 97 [(0, .ref 53), (1, I_ x1), (2, I_ x2), (3, I_ x3), (4, I_ x4), (5, I_ x5)] [I_ xs0] n (W0 dy) g 0 0 P := by
  have c1 := h.1
  have h := h.2
  refine v_if_ne 54 rfl (tgt := 106) rfl c1 (fun q2 => ?_) (fun q2 => ?_)
  · have h := h.1 q2
    exact h
  · have h := h.2 q2
    refine v_iinc 55 5 [1, 2, 3, 4, 5, 0] rfl rfl (by decide) rfl ?_
    refine v_goto 56 rfl (tgt := 78) rfl ?_
    exact h
set_option maxHeartbeats 8000000 in
set_option maxRecDepth 4000 in
theorem bX12_same_106 {d n : Nat} {dy : Nat → Shp} {g : Hp} {P : Pst} {x1 : Int} {x2 : Int} {x3 : Int} {x4 : Int} {x5 : Int} (hn : 100 ≤ n) (h : (i3 x5) ∧ (i3 x3) ∧ ((x3 ≤ x5) → V miX12_same (d + 1) 135 [(0, .ref 53), (1, I_ x1), (2, I_ x2), (3, I_ x3), (4, I_ x4), (5, I_ x5)] [I_ x4, I_ x4, .ref 73] n (W0 dy) g 0 0 P) ∧ ((x5 < x3) → (0 ≤ x5 ∧ x5 < 60) ∧ (0 ≤ g 71 x5.toNat ∧ g 71 x5.toNat < 60) ∧ V miX12_same (d + 1) 135 [(0, .ref 53), (1, I_ x1), (2, I_ x2), (3, I_ x3), (4, I_ x4), (5, I_ x5)] [I_ (g 73 ((g 71 x5.toNat).toNat)), I_ x4, .ref 73] n (W0 dy) g 0 0 P)) : V miX12_same (d + 1) 106 [(0, .ref 53), (1, I_ x1), (2, I_ x2), (3, I_ x3), (4, I_ x4), (5, I_ x5)] [] n (W0 dy) g 0 0 P := by
  refine v_aload_n 57 0 rfl rfl rfl ?_
  refine v_gK 58 rfl fl12_68_11.r (al 53 rfl hn) (wk53 dy) (by decide) rfl (r := 73) (wc53_22 dy) ?_
  refine v_iload 59 4 rfl rfl ?_
  refine v_iload 60 5 rfl rfl ?_
  refine v_iload_n 61 3 rfl rfl rfl ?_
  have c1 := h.1
  have h := h.2
  have c2 := h.1
  have h := h.2
  refine v_icmp_ge 62 rfl (tgt := 133) rfl c1 c2 (fun q9 => ?_) (fun q9 => ?_)
  · have h := h.1 q9
    refine v_iload 71 4 rfl rfl ?_
    exact h
  · have h := h.2 q9
    refine v_aload_n 63 0 rfl rfl rfl ?_
    refine v_gK 64 rfl fl12_68_11.r (al 53 rfl hn) (wk53 dy) (by decide) rfl (r := 73) (wc53_22 dy) ?_
    refine v_aload_n 65 0 rfl rfl rfl ?_
    refine v_gK 66 rfl fl12_62_11.r (al 53 rfl hn) (wk53 dy) (by decide) rfl (r := 71) (wc53_20 dy) ?_
    refine v_iload 67 5 rfl rfl ?_
    have c3 := h.1
    have h := h.2
    refine v_ia (N := 60) 68 rfl (al 71 rfl hn) (wk71 dy) (wn71 dy) (by decide) c3 (y := g 71 x5.toNat) rfl ?_
    refine v_rng fun w4 => ?_
    have r5 : i3 (g 71 x5.toNat) := rI w4 (q := x5.toNat) (al 71 rfl hn) (wk71 dy) rfl rfl
    have c6 := h.1
    have h := h.2
    refine v_ia (N := 60) 69 rfl (al 73 rfl hn) (wk73 dy) (wn73 dy) (by decide) c6 (y := g 73 ((g 71 x5.toNat).toNat)) rfl ?_
    refine v_rng fun w7 => ?_
    have r8 : i3 (g 73 ((g 71 x5.toNat).toNat)) := rI w7 (q := ((g 71 x5.toNat).toNat)) (al 73 rfl hn) (wk73 dy) rfl rfl
    refine v_goto 70 rfl (tgt := 135) rfl ?_
    exact h
set_option maxHeartbeats 8000000 in
set_option maxRecDepth 4000 in
theorem bX12_same_135 {d n : Nat} {dy : Nat → Shp} {g : Hp} {P : Pst} {x1 : Int} {x2 : Int} {x3 : Int} {x4 : Int} {x5 : Int} {xs1 : Int} {xs2 : Int} (hn : 100 ≤ n) (h : (0 ≤ xs1 ∧ xs1 < 60) ∧ (i3 xs2) ∧ V miX12_same (d + 1) 59 [(0, .ref 53), (1, I_ x1), (2, I_ x2), (3, I_ (x3 + 1))] [] n (W0 dy) (up2 g 73 xs1.toNat xs2) 0 0 P) : V miX12_same (d + 1) 135 [(0, .ref 53), (1, I_ x1), (2, I_ x2), (3, I_ x3), (4, I_ x4), (5, I_ x5)] [I_ xs2, I_ xs1, .ref 73] n (W0 dy) g 0 0 P := by
  have c1 := h.1
  have h := h.2
  have c2 := h.1
  have h := h.2
  refine v_iast (N := 60) 72 rfl (al 73 rfl hn) (wk73 dy) (wn73 dy) (by decide) c1 c2 ?_
  refine v_iinc 73 3 [1, 2, 3, 0, 4, 5] rfl rfl (by decide) rfl ?_
  refine v_goto 74 rfl (tgt := 59) rfl ?_
  refine v_loc [0, 1, 2, 3] rfl ?_
  exact h
set_option maxHeartbeats 8000000 in
set_option maxRecDepth 4000 in
theorem bX12_same_162 {d n : Nat} {dy : Nat → Shp} {g : Hp} {P : Pst} {x1 : Int} {x2 : Int} {x3 : Int} {xs0 : Int} (hn : 100 ≤ n) (h : P (some (I_ xs0)) n (W0 dy) g) : V miX12_same (d + 1) 162 [(0, .ref 53), (1, I_ x1), (2, I_ x2), (3, I_ x3)] [I_ xs0] n (W0 dy) g 0 0 P := by
  exact v_ret (v := some (I_ xs0)) 87 rfl (Nat.zero_le _) (Nat.zero_le _) trivial rfl h
theorem fl12_381_11 : FL RX12 381 11 29 false .int := ⟨RX12, TX12, 58, "MobileMakerModel", rfl, rfl, by decide, kf11, tbG_in (List.mem_append_right _ (List.mem_of_getElem? (i := 1156) (by decide +kernel))) rfl, Or.inl rfl, rfl, by decide +kernel, ⟨tyX12, tyX12_ok⟩, nmX12, fun h => by cases h⟩
theorem fl12_84_11 : FL RX12 84 11 28 true (.array .byte) := ⟨RX12, TX12, 58, "MobileMakerModel", rfl, rfl, by decide, kf11, tbG_in (List.mem_append_right _ (List.mem_of_getElem? (i := 1155) (by decide +kernel))) rfl, Or.inl rfl, rfl, by decide +kernel, ⟨tyX12, tyX12_ok⟩, nmX12, fun _ => rfl⟩
set_option maxHeartbeats 8000000 in
set_option maxRecDepth 4000 in
theorem bX12_put_0 {d n : Nat} {dy : Nat → Shp} {g : Hp} {P : Pst} {x1 : Int} (hn : 100 ≤ n) (h : ((600 ≤ (g 53 29)) → V miX12_put d 21 [(0, .ref 53), (1, I_ x1)] [] n (W0 dy) g 0 0 P) ∧ (((g 53 29) < 600) → (0 ≤ g 53 29 ∧ g 53 29 < 600) ∧ V miX12_put d 21 [(0, .ref 53), (1, I_ x1)] [] n (W0 dy) (up2 g 78 ((g 53 29).toNat) (c2b x1)) 0 0 P)) : V miX12_put d 0 [(0, .ref 53), (1, I_ x1)] [] n (W0 dy) g 0 0 P := by
  refine v_aload_n 0 0 rfl rfl rfl ?_
  refine v_gI 1 rfl fl12_381_11.r (al 53 rfl hn) (wk53 dy) (by decide) rfl (wc53_29 dy) (x := g 53 29) rfl ?_
  refine v_rng fun w1 => ?_
  have r2 : i3 (g 53 29) := rI w1 (q := 29) (al 53 rfl hn) (wk53 dy) rfl rfl
  refine v_sipush 2 rfl (by decide) ?_
  refine v_icmp_ge 3 rfl (tgt := 21) rfl r2 (by decide) (fun q6 => ?_) (fun q6 => ?_)
  · have h := h.1 q6
    exact h
  · have h := h.2 q6
    refine v_aload_n 4 0 rfl rfl rfl ?_
    refine v_gK 5 rfl fl12_84_11.r (al 53 rfl hn) (wk53 dy) (by decide) rfl (r := 78) (wc53_28 dy) ?_
    refine v_aload_n 6 0 rfl rfl rfl ?_
    refine v_gI 7 rfl fl12_381_11.r (al 53 rfl hn) (wk53 dy) (by decide) rfl (wc53_29 dy) (x := g 53 29) rfl ?_
    refine v_rng fun w3 => ?_
    have r4 : i3 (g 53 29) := rI w3 (q := 29) (al 53 rfl hn) (wk53 dy) rfl rfl
    refine v_iload_n 8 1 rfl rfl rfl ?_
    refine v_i2b 9 rfl ?_
    have c5 := h.1
    have h := h.2
    refine v_bast (N := 600) 10 rfl (al 78 rfl hn) (wk78 dy) (wn78 dy) (by decide) c5 (c2b_n _) (c2b_r _) ?_
    exact h
set_option maxHeartbeats 8000000 in
set_option maxRecDepth 4000 in
theorem bX12_put_21 {d n : Nat} {dy : Nat → Shp} {g : Hp} {P : Pst} {x1 : Int} (hn : 100 ≤ n) (h : (i3 ((g 53 29) + 1)) ∧ P none n (W0 dy) (up2 g 53 29 ((g 53 29) + 1))) : V miX12_put d 21 [(0, .ref 53), (1, I_ x1)] [] n (W0 dy) g 0 0 P := by
  refine v_aload_n 11 0 rfl rfl rfl ?_
  refine v_dup 12 rfl (by intro h; cases h) ?_
  refine v_gI 13 rfl fl12_381_11.r (al 53 rfl hn) (wk53 dy) (by decide) rfl (wc53_29 dy) (x := g 53 29) rfl ?_
  refine v_rng fun w1 => ?_
  have r2 : i3 (g 53 29) := rI w1 (q := 29) (al 53 rfl hn) (wk53 dy) rfl rfl
  refine v_iconst 14 rfl ?_
  refine v_iadd 15 rfl ?_
  have c3 := h.1
  have h := h.2
  refine v_putI 16 rfl fl12_381_11 (al 53 rfl hn) (wk53 dy) (by decide) rfl (wc53_29 dy) c3 ?_
  exact v_ret (v := none) 17 rfl (Nat.zero_le _) (Nat.zero_le _) trivial rfl h
theorem lv12_390_putNumber_11 : LkV miX12_putNumber miX12_put 390 1 11 := ⟨⟨⟨tbG_in (List.mem_append_right _ (List.mem_of_getElem? (i := 1668) (by decide +kernel))) rfl, tbG_in (List.mem_append_right _ (List.mem_of_getElem? (i := 9) (by decide +kernel))) rfl, tbG_in (List.mem_append_right _ (List.mem_of_getElem? (i := 1665) (by decide +kernel))) rfl⟩, ⟨by decide +kernel, by decide +kernel, by decide +kernel⟩, by decide⟩, tbG_in (List.mem_append_right _ (List.mem_of_getElem? (i := 1667) (by decide +kernel))) rfl, RX12, TX12, 58, rfl, tbG_in (List.mem_append_left _ (List.mem_of_getElem? (i := 96) (by decide +kernel))) rfl⟩
set_option maxHeartbeats 8000000 in
set_option maxRecDepth 4000 in
theorem bX12_putNumber_0 {d n : Nat} {dy : Nat → Shp} {g : Hp} {P : Pst} {x1 : Int} (hn : 100 ≤ n) (h : V miX12_putNumber (d + 1) 2 [(0, .ref 53), (1, L_ x1), (3, L_ 1)] [] n (W0 dy) g 0 0 P) : V miX12_putNumber (d + 1) 0 [(0, .ref 53), (1, L_ x1)] [] n (W0 dy) g 0 0 P := by
  refine v_lconst (v := 1) 0 rfl (by decide) ?_
  refine v_lstore_n 1 [1, 2, 0] rfl rfl (by decide) rfl ?_
  exact h
set_option maxHeartbeats 8000000 in
set_option maxRecDepth 4000 in
theorem bX12_putNumber_2 {d n : Nat} {dy : Nat → Shp} {g : Hp} {P : Pst} {x1 : Int} {x3 : Int} (hn : 100 ≤ n) (h : (i6 x1) ∧ (i6 x3) ∧ (x3 ≠ 0) ∧ (i6 (x1.tdiv x3)) ∧ (((x1.tdiv x3) ≤ 9) → V miX12_putNumber (d + 1) 21 [(0, .ref 53), (1, L_ x1), (3, L_ x3)] [] n (W0 dy) g 0 0 P) ∧ ((9 < (x1.tdiv x3)) → V miX12_putNumber (d + 1) 2 [(0, .ref 53), (1, L_ x1), (3, L_ (x3 * 10))] [] n (W0 dy) g 0 0 P)) : V miX12_putNumber (d + 1) 2 [(0, .ref 53), (1, L_ x1), (3, L_ x3)] [] n (W0 dy) g 0 0 P := by
  refine v_lload_n 2 1 rfl rfl rfl ?_
  refine v_lload_n 3 2 rfl rfl rfl ?_
  have c1 := h.1
  have h := h.2
  have c2 := h.1
  have h := h.2
  have c3 := h.1
  have h := h.2
  refine v_ldiv 4 rfl c1 c2 c3 ?_
  refine v_ldc2 (v := 9) 5 rfl (tbG_in (List.mem_append_right _ (List.mem_of_getElem? (i := 1673) (by decide +kernel))) rfl) ?_
  have c4 := h.1
  have h := h.2
  refine v_lif_le 6 rfl rfl (tgt := 21) rfl c4 (by decide) (fun q5 => ?_) (fun q5 => ?_)
  · have h := h.1 q5
    exact h
  · have h := h.2 q5
    refine v_lload_n 8 2 rfl rfl rfl ?_
    refine v_ldc2 (v := 10) 9 rfl (tbG_in (List.mem_append_right _ (List.mem_of_getElem? (i := 1674) (by decide +kernel))) rfl) ?_
    refine v_lmul 10 rfl ?_
    refine v_lstore_n 11 [1, 2, 0] rfl rfl (by decide) rfl ?_
    refine v_goto 12 rfl (tgt := 2) rfl ?_
    exact h
set_option maxHeartbeats 8000000 in
set_option maxRecDepth 4000 in
theorem bX12_putNumber_21 {d n : Nat} {dy : Nat → Shp} {g : Hp} {P : Pst} {x1 : Int} {x3 : Int} (hn : 100 ≤ n) (h : (i6 x3) ∧ ((x3 ≤ 0) → P none n (W0 dy) g) ∧ ((0 < x3) → (i6 x1) ∧ (x3 ≠ 0) ∧ (i6 (x1.tdiv x3)) ∧ Runs miX12_put d [.ref 53, I_ (48 + ((x1.tdiv x3).tmod 10))] n (W0 dy) g (fun v n' S' g' => V miX12_putNumber (d + 1) 43 [(0, .ref 53), (1, L_ x1), (3, L_ x3)] (v.toList ++ []) n' S' g' 0 0 P))) : V miX12_putNumber (d + 1) 21 [(0, .ref 53), (1, L_ x1), (3, L_ x3)] [] n (W0 dy) g 0 0 P := by
  refine v_lload_n 13 2 rfl rfl rfl ?_
  refine v_lconst (v := 0) 14 rfl (by decide) ?_
  have c1 := h.1
  have h := h.2
  refine v_lif_le 15 rfl rfl (tgt := 52) rfl c1 (by decide) (fun q5 => ?_) (fun q5 => ?_)
  · have h := h.1 q5
    exact v_ret (v := none) 32 rfl (Nat.zero_le _) (Nat.zero_le _) trivial rfl h
  · have h := h.2 q5
    refine v_aload_n 17 0 rfl rfl rfl ?_
    refine v_ldc2 (v := 48) 18 rfl (tbG_in (List.mem_append_right _ (List.mem_of_getElem? (i := 1675) (by decide +kernel))) rfl) ?_
    refine v_lload_n 19 1 rfl rfl rfl ?_
    refine v_lload_n 20 2 rfl rfl rfl ?_
    have c2 := h.1
    have h := h.2
    have c3 := h.1
    have h := h.2
    refine v_ldiv 21 rfl c2 c1 c3 ?_
    refine v_ldc2 (v := 10) 22 rfl (tbG_in (List.mem_append_right _ (List.mem_of_getElem? (i := 1674) (by decide +kernel))) rfl) ?_
    have c4 := h.1
    have h := h.2
    refine v_lrem 23 rfl c4 (by decide) (by decide) ?_
    refine v_ladd 24 rfl ?_
    refine v_l2i 25 rfl ?_
    refine v_callV (st := []) [I_ (48 + ((x1.tdiv x3).tmod 10))] 26 rfl lv12_390_putNumber_11 (al 53 rfl hn) (wk53 dy) (by decide) rfl (Nat.le_refl _) (Nat.le_refl _) ?_
    exact h
set_option maxHeartbeats 8000000 in
set_option maxRecDepth 4000 in
theorem bX12_putNumber_43 {d n : Nat} {dy : Nat → Shp} {g : Hp} {P : Pst} {x1 : Int} {x3 : Int} (hn : 100 ≤ n) (h : (i6 x3) ∧ V miX12_putNumber (d + 1) 21 [(0, .ref 53), (1, L_ x1), (3, L_ (x3.tdiv 10))] [] n (W0 dy) g 0 0 P) : V miX12_putNumber (d + 1) 43 [(0, .ref 53), (1, L_ x1), (3, L_ x3)] [] n (W0 dy) g 0 0 P := by
  refine v_lload_n 27 2 rfl rfl rfl ?_
  refine v_ldc2 (v := 10) 28 rfl (tbG_in (List.mem_append_right _ (List.mem_of_getElem? (i := 1674) (by decide +kernel))) rfl) ?_
  have c1 := h.1
  have h := h.2
  refine v_ldiv 29 rfl c1 (by decide) (by decide) ?_
  refine v_lstore_n 30 [1, 2, 0] rfl rfl (by decide) rfl ?_
  refine v_goto 31 rfl (tgt := 21) rfl ?_
  exact h
theorem fl12_142_11 : FL RX12 142 11 55 true (.array .int) := ⟨RX12, TX12, 58, "MobileMakerModel", rfl, rfl, by decide, kf11, tbG_in (List.mem_append_right _ (List.mem_of_getElem? (i := 1182) (by decide +kernel))) rfl, Or.inl rfl, rfl, by decide +kernel, ⟨tyX12, tyX12_ok⟩, nmX12, fun _ => rfl⟩
theorem fl12_393_11 : FL RX12 393 11 57 false .int := ⟨RX12, TX12, 58, "MobileMakerModel", rfl, rfl, by decide, kf11, tbG_in (List.mem_append_right _ (List.mem_of_getElem? (i := 1184) (by decide +kernel))) rfl, Or.inl rfl, rfl, by decide +kernel, ⟨tyX12, tyX12_ok⟩, nmX12, fun h => by cases h⟩
theorem fl12_145_11 : FL RX12 145 11 56 true (.array .int) := ⟨RX12, TX12, 58, "MobileMakerModel", rfl, rfl, by decide, kf11, tbG_in (List.mem_append_right _ (List.mem_of_getElem? (i := 1183) (by decide +kernel))) rfl, Or.inl rfl, rfl, by decide +kernel, ⟨tyX12, tyX12_ok⟩, nmX12, fun _ => rfl⟩
set_option maxHeartbeats 8000000 in
set_option maxRecDepth 4000 in
theorem bX12_later_0 {d n : Nat} {dy : Nat → Shp} {g : Hp} {P : Pst} {x1 : Int} {x2 : Int} (hn : 100 ≤ n) (h : (0 ≤ g 53 57 ∧ g 53 57 < 400) ∧ (i3 x1) ∧ (i3 x2) ∧ (i3 ((g 53 57) + 1)) ∧ P none n (W0 dy) (up2 (up2 (up2 g 97 ((g 53 57).toNat) x1) 98 ((g 53 57).toNat) x2) 53 57 ((g 53 57) + 1))) : V miX12_later d 0 [(0, .ref 53), (1, I_ x1), (2, I_ x2)] [] n (W0 dy) g 0 0 P := by
  refine v_aload_n 0 0 rfl rfl rfl ?_
  refine v_gK 1 rfl fl12_142_11.r (al 53 rfl hn) (wk53 dy) (by decide) rfl (r := 97) (wc53_55 dy) ?_
  refine v_aload_n 2 0 rfl rfl rfl ?_
  refine v_gI 3 rfl fl12_393_11.r (al 53 rfl hn) (wk53 dy) (by decide) rfl (wc53_57 dy) (x := g 53 57) rfl ?_
  refine v_rng fun w1 => ?_
  have r2 : i3 (g 53 57) := rI w1 (q := 57) (al 53 rfl hn) (wk53 dy) rfl rfl
  refine v_iload_n 4 1 rfl rfl rfl ?_
  have c3 := h.1
  have h := h.2
  have c4 := h.1
  have h := h.2
  refine v_iast (N := 400) 5 rfl (al 97 rfl hn) (wk97 dy) (wn97 dy) (by decide) c3 c4 ?_
  refine v_aload_n 6 0 rfl rfl rfl ?_
  refine v_gK 7 rfl fl12_145_11.r (al 53 rfl hn) (wk53 dy) (by decide) rfl (r := 98) (wc53_56 dy) ?_
  refine v_aload_n 8 0 rfl rfl rfl ?_
  refine v_gI 9 rfl fl12_393_11.r (al 53 rfl hn) (wk53 dy) (by decide) rfl (wc53_57 dy) (x := g 53 57) rfl ?_
  refine v_rng fun w5 => ?_
  have r6 : i3 (g 53 57) := rI w5 (q := 57) (al 53 rfl hn) (wk53 dy) rfl rfl
  refine v_iload_n 10 2 rfl rfl rfl ?_
  have c7 := h.1
  have h := h.2
  refine v_iast (N := 400) 11 rfl (al 98 rfl hn) (wk98 dy) (wn98 dy) (by decide) c3 c7 ?_
  refine v_aload_n 12 0 rfl rfl rfl ?_
  refine v_dup 13 rfl (by intro h; cases h) ?_
  refine v_gI 14 rfl fl12_393_11.r (al 53 rfl hn) (wk53 dy) (by decide) rfl (wc53_57 dy) (x := g 53 57) rfl ?_
  refine v_rng fun w8 => ?_
  have r9 : i3 (g 53 57) := rI w8 (q := 57) (al 53 rfl hn) (wk53 dy) rfl rfl
  refine v_iconst 15 rfl ?_
  refine v_iadd 16 rfl ?_
  have c10 := h.1
  have h := h.2
  refine v_putI 17 rfl fl12_393_11 (al 53 rfl hn) (wk53 dy) (by decide) rfl (wc53_57 dy) c10 ?_
  exact v_ret (v := none) 18 rfl (Nat.zero_le _) (Nat.zero_le _) trivial rfl h
theorem lv12_274_show_11 : LkV miX12_show miX12_topped 274 1 11 := ⟨⟨⟨tbG_in (List.mem_append_right _ (List.mem_of_getElem? (i := 1501) (by decide +kernel))) rfl, tbG_in (List.mem_append_right _ (List.mem_of_getElem? (i := 9) (by decide +kernel))) rfl, tbG_in (List.mem_append_right _ (List.mem_of_getElem? (i := 1498) (by decide +kernel))) rfl⟩, ⟨by decide +kernel, by decide +kernel, by decide +kernel⟩, by decide⟩, tbG_in (List.mem_append_right _ (List.mem_of_getElem? (i := 1500) (by decide +kernel))) rfl, RX12, TX12, 58, rfl, tbG_in (List.mem_append_left _ (List.mem_of_getElem? (i := 70) (by decide +kernel))) rfl⟩
theorem lv12_396_show_11 : LkV miX12_show miX12_later 396 2 11 := ⟨⟨⟨tbG_in (List.mem_append_right _ (List.mem_of_getElem? (i := 1660) (by decide +kernel))) rfl, tbG_in (List.mem_append_right _ (List.mem_of_getElem? (i := 9) (by decide +kernel))) rfl, tbG_in (List.mem_append_right _ (List.mem_of_getElem? (i := 1657) (by decide +kernel))) rfl⟩, ⟨by decide +kernel, by decide +kernel, by decide +kernel⟩, by decide⟩, tbG_in (List.mem_append_right _ (List.mem_of_getElem? (i := 1659) (by decide +kernel))) rfl, RX12, TX12, 58, rfl, tbG_in (List.mem_append_left _ (List.mem_of_getElem? (i := 94) (by decide +kernel))) rfl⟩
theorem lv12_390_show_11 : LkV miX12_show miX12_put 390 1 11 := ⟨⟨⟨tbG_in (List.mem_append_right _ (List.mem_of_getElem? (i := 1668) (by decide +kernel))) rfl, tbG_in (List.mem_append_right _ (List.mem_of_getElem? (i := 9) (by decide +kernel))) rfl, tbG_in (List.mem_append_right _ (List.mem_of_getElem? (i := 1665) (by decide +kernel))) rfl⟩, ⟨by decide +kernel, by decide +kernel, by decide +kernel⟩, by decide⟩, tbG_in (List.mem_append_right _ (List.mem_of_getElem? (i := 1667) (by decide +kernel))) rfl, RX12, TX12, 58, rfl, tbG_in (List.mem_append_left _ (List.mem_of_getElem? (i := 96) (by decide +kernel))) rfl⟩
theorem lv12_400_show_11 : LkV miX12_show miX12_showPart 400 1 11 := ⟨⟨⟨tbG_in (List.mem_append_right _ (List.mem_of_getElem? (i := 1664) (by decide +kernel))) rfl, tbG_in (List.mem_append_right _ (List.mem_of_getElem? (i := 9) (by decide +kernel))) rfl, tbG_in (List.mem_append_right _ (List.mem_of_getElem? (i := 1661) (by decide +kernel))) rfl⟩, ⟨by decide +kernel, by decide +kernel, by decide +kernel⟩, by decide⟩, tbG_in (List.mem_append_right _ (List.mem_of_getElem? (i := 1663) (by decide +kernel))) rfl, RX12, TX12, 58, rfl, tbG_in (List.mem_append_left _ (List.mem_of_getElem? (i := 95) (by decide +kernel))) rfl⟩
theorem lv12_403_show_11 : LkV miX12_show miX12_putNumber 403 1 11 := ⟨⟨⟨tbG_in (List.mem_append_right _ (List.mem_of_getElem? (i := 1672) (by decide +kernel))) rfl, tbG_in (List.mem_append_right _ (List.mem_of_getElem? (i := 9) (by decide +kernel))) rfl, tbG_in (List.mem_append_right _ (List.mem_of_getElem? (i := 1669) (by decide +kernel))) rfl⟩, ⟨by decide +kernel, by decide +kernel, by decide +kernel⟩, by decide⟩, tbG_in (List.mem_append_right _ (List.mem_of_getElem? (i := 1671) (by decide +kernel))) rfl, RX12, TX12, 58, rfl, tbG_in (List.mem_append_left _ (List.mem_of_getElem? (i := 97) (by decide +kernel))) rfl⟩
set_option maxHeartbeats 8000000 in
set_option maxRecDepth 4000 in
theorem bX12_show_0 {d n : Nat} {dy : Nat → Shp} {g : Hp} {P : Pst} {x1 : Int} (hn : 100 ≤ n) (h : Runs miX12_topped d [.ref 53, I_ x1] n (W0 dy) (up2 g 53 1 0) (fun v n' S' g' => V miX12_show (d + 1) 11 [(0, .ref 53), (1, I_ x1)] (v.toList ++ [.ref 53]) n' S' g' 0 0 P)) : V miX12_show (d + 1) 0 [(0, .ref 53), (1, I_ x1)] [] n (W0 dy) g 0 0 P := by
  refine v_aload_n 0 0 rfl rfl rfl ?_
  refine v_iconst 1 rfl ?_
  refine v_putI 2 rfl fl12_148_11 (al 53 rfl hn) (wk53 dy) (by decide) rfl (wc53_1 dy) (by decide) ?_
  refine v_aload_n 3 0 rfl rfl rfl ?_
  refine v_aload_n 4 0 rfl rfl rfl ?_
  refine v_iload_n 5 1 rfl rfl rfl ?_
  refine v_callV (st := [.ref 53]) [I_ x1] 6 rfl lv12_274_show_11 (al 53 rfl hn) (wk53 dy) (by decide) rfl (Nat.le_refl _) (Nat.le_refl _) ?_
  exact h
set_option maxHeartbeats 8000000 in
set_option maxRecDepth 4000 in
theorem bX12_show_11 {d n : Nat} {dy : Nat → Shp} {g : Hp} {P : Pst} {x1 : Int} {xs1 : Int} (hn : 100 ≤ n) (h : (i3 xs1) ∧ ((xs1 ≤ 0) → Runs miX12_later d [.ref 53, I_ 0, I_ x1] n (W0 dy) (up2 (up2 (up2 g 53 0 xs1) 53 29 0) 53 57 0) (fun v n' S' g' => V miX12_show (d + 1) 39 [(0, .ref 53), (1, I_ x1)] (v.toList ++ []) n' S' g' 0 0 P)) ∧ ((0 < xs1) → P (some (I_ ((-1)))) n (W0 dy) (up2 g 53 0 xs1))) : V miX12_show (d + 1) 11 [(0, .ref 53), (1, I_ x1)] [I_ xs1, .ref 53] n (W0 dy) g 0 0 P := by
  have c1 := h.1
  have h := h.2
  refine v_putI 7 rfl fl12_152_11 (al 53 rfl hn) (wk53 dy) (by decide) rfl (wc53_0 dy) c1 ?_
  refine v_aload_n 8 0 rfl rfl rfl ?_
  refine v_gI 9 rfl fl12_152_11.r (al 53 rfl hn) (wk53 dy) (by decide) rfl (wc53_0 dy) (x := xs1) rfl ?_
  refine v_rng fun w2 => ?_
  have r3 : i3 (xs1) := rI w2 (q := 0) (al 53 rfl hn) (wk53 dy) rfl rfl
  refine v_if_le 10 rfl (tgt := 23) rfl r3 (fun q4 => ?_) (fun q4 => ?_)
  · have h := h.1 q4
    refine v_aload_n 13 0 rfl rfl rfl ?_
    refine v_iconst 14 rfl ?_
    refine v_putI 15 rfl fl12_381_11 (al 53 rfl hn) (wk53 dy) (by decide) rfl (wc53_29 dy) (by decide) ?_
    refine v_aload_n 16 0 rfl rfl rfl ?_
    refine v_iconst 17 rfl ?_
    refine v_putI 18 rfl fl12_393_11 (al 53 rfl hn) (wk53 dy) (by decide) rfl (wc53_57 dy) (by decide) ?_
    refine v_aload_n 19 0 rfl rfl rfl ?_
    refine v_iconst 20 rfl ?_
    refine v_iload_n 21 1 rfl rfl rfl ?_
    refine v_callV (st := []) [I_ 0, I_ x1] 22 rfl lv12_396_show_11 (al 53 rfl hn) (wk53 dy) (by decide) rfl (Nat.le_refl _) (Nat.le_refl _) ?_
    exact h
  · have h := h.2 q4
    refine v_iconst 11 rfl ?_
    exact v_ret (v := some (I_ ((-1)))) 12 rfl (Nat.zero_le _) (Nat.zero_le _) trivial rfl h
set_option maxHeartbeats 8000000 in
set_option maxRecDepth 4000 in
theorem bX12_show_39 {d n : Nat} {dy : Nat → Shp} {g : Hp} {P : Pst} {x1 : Int} (hn : 100 ≤ n) (h : (((g 53 57) ≤ 0) → P (some (I_ (g 53 29))) n (W0 dy) g) ∧ ((0 < (g 53 57)) → (i3 ((g 53 57) - 1)) ∧ (0 ≤ (g 53 57) - 1 ∧ (g 53 57) - 1 < 400) ∧ (((g 97 (((g 53 57) - 1).toNat)) < 0 ∨ 2 < (g 97 (((g 53 57) - 1).toNat))) → Runs miX12_put d [.ref 53, I_ (g 98 (((g 53 57) - 1).toNat))] n (W0 dy) (up2 g 53 57 ((g 53 57) - 1)) (fun v n' S' g' => V miX12_show (d + 1) 193 [(0, .ref 53), (1, I_ x1), (2, I_ (g 98 (((g 53 57) - 1).toNat)))] (v.toList ++ []) n' S' g' 0 0 P)) ∧ ((g 97 (((g 53 57) - 1).toNat)) = 0 → Runs miX12_showPart d [.ref 53, I_ (g 98 (((g 53 57) - 1).toNat))] n (W0 dy) (up2 g 53 57 ((g 53 57) - 1)) (fun v n' S' g' => V miX12_show (d + 1) 105 [(0, .ref 53), (1, I_ x1), (2, I_ (g 98 (((g 53 57) - 1).toNat)))] (v.toList ++ []) n' S' g' 0 0 P)) ∧ ((g 97 (((g 53 57) - 1).toNat)) = 1 → ((0 ≤ (g 98 (((g 53 57) - 1).toNat))) → (0 ≤ g 98 (((g 53 57) - 1).toNat) ∧ g 98 (((g 53 57) - 1).toNat) < 60) ∧ Runs miX12_putNumber d [.ref 53, L_ (g 62 ((g 98 (((g 53 57) - 1).toNat)).toNat))] n (W0 dy) (up2 g 53 57 ((g 53 57) - 1)) (fun v n' S' g' => V miX12_show (d + 1) 132 [(0, .ref 53), (1, I_ x1), (2, I_ (g 98 (((g 53 57) - 1).toNat)))] (v.toList ++ []) n' S' g' 0 0 P)) ∧ (((g 98 (((g 53 57) - 1).toNat)) < 0) → Runs miX12_put d [.ref 53, I_ 45] n (W0 dy) (up2 g 53 57 ((g 53 57) - 1)) (fun v n' S' g' => V miX12_show (d + 1) 118 [(0, .ref 53), (1, I_ x1), (2, I_ (g 98 (((g 53 57) - 1).toNat)))] (v.toList ++ []) n' S' g' 0 0 P))) ∧ ((g 97 (((g 53 57) - 1).toNat)) = 2 → Runs miX12_put d [.ref 53, I_ 44] n (W0 dy) (up2 g 53 57 ((g 53 57) - 1)) (fun v n' S' g' => V miX12_show (d + 1) 153 [(0, .ref 53), (1, I_ x1), (2, I_ (g 98 (((g 53 57) - 1).toNat)))] (v.toList ++ []) n' S' g' 0 0 P)))) : V miX12_show (d + 1) 39 [(0, .ref 53), (1, I_ x1)] [] n (W0 dy) g 0 0 P := by
  refine v_aload_n 23 0 rfl rfl rfl ?_
  refine v_gI 24 rfl fl12_393_11.r (al 53 rfl hn) (wk53 dy) (by decide) rfl (wc53_57 dy) (x := g 53 57) rfl ?_
  refine v_rng fun w1 => ?_
  have r2 : i3 (g 53 57) := rI w1 (q := 57) (al 53 rfl hn) (wk53 dy) rfl rfl
  refine v_if_le 25 rfl (tgt := 196) rfl r2 (fun q22 => ?_) (fun q22 => ?_)
  · have h := h.1 q22
    refine v_aload_n 95 0 rfl rfl rfl ?_
    refine v_gI 96 rfl fl12_381_11.r (al 53 rfl hn) (wk53 dy) (by decide) rfl (wc53_29 dy) (x := g 53 29) rfl ?_
    refine v_rng fun w3 => ?_
    have r4 : i3 (g 53 29) := rI w3 (q := 29) (al 53 rfl hn) (wk53 dy) rfl rfl
    exact v_ret (v := some (I_ (g 53 29))) 97 rfl (Nat.zero_le _) (Nat.zero_le _) trivial rfl h
  · have h := h.2 q22
    refine v_aload_n 26 0 rfl rfl rfl ?_
    refine v_dup 27 rfl (by intro h; cases h) ?_
    refine v_gI 28 rfl fl12_393_11.r (al 53 rfl hn) (wk53 dy) (by decide) rfl (wc53_57 dy) (x := g 53 57) rfl ?_
    refine v_rng fun w5 => ?_
    have r6 : i3 (g 53 57) := rI w5 (q := 57) (al 53 rfl hn) (wk53 dy) rfl rfl
    refine v_iconst 29 rfl ?_
    refine v_isub 30 rfl ?_
    have c7 := h.1
    have h := h.2
    refine v_putI 31 rfl fl12_393_11 (al 53 rfl hn) (wk53 dy) (by decide) rfl (wc53_57 dy) c7 ?_
    refine v_aload_n 32 0 rfl rfl rfl ?_
    refine v_gK 33 rfl fl12_145_11.r (al 53 rfl hn) (wk53 dy) (by decide) rfl (r := 98) (wc53_56 dy) ?_
    refine v_aload_n 34 0 rfl rfl rfl ?_
    refine v_gI 35 rfl fl12_393_11.r (al 53 rfl hn) (wk53 dy) (by decide) rfl (wc53_57 dy) (x := (g 53 57) - 1) rfl ?_
    refine v_rng fun w8 => ?_
    have r9 : i3 ((g 53 57) - 1) := rI w8 (q := 57) (al 53 rfl hn) (wk53 dy) rfl rfl
    have c10 := h.1
    have h := h.2
    refine v_ia (N := 400) 36 rfl (al 98 rfl hn) (wk98 dy) (wn98 dy) (by decide) c10 (y := g 98 (((g 53 57) - 1).toNat)) rfl ?_
    refine v_rng fun w11 => ?_
    have r12 : i3 (g 98 (((g 53 57) - 1).toNat)) := rI w11 (q := (((g 53 57) - 1).toNat)) (al 98 rfl hn) (wk98 dy) rfl rfl
    refine v_istore_n 37 [1, 2, 0] rfl rfl (by decide) rfl ?_
    refine v_aload_n 38 0 rfl rfl rfl ?_
    refine v_gK 39 rfl fl12_142_11.r (al 53 rfl hn) (wk53 dy) (by decide) rfl (r := 97) (wc53_55 dy) ?_
    refine v_aload_n 40 0 rfl rfl rfl ?_
    refine v_gI 41 rfl fl12_393_11.r (al 53 rfl hn) (wk53 dy) (by decide) rfl (wc53_57 dy) (x := (g 53 57) - 1) rfl ?_
    refine v_rng fun w13 => ?_
    have r14 : i3 ((g 53 57) - 1) := rI w13 (q := 57) (al 53 rfl hn) (wk53 dy) rfl rfl
    refine v_ia (N := 400) 42 rfl (al 97 rfl hn) (wk97 dy) (wn97 dy) (by decide) c10 (y := g 97 (((g 53 57) - 1).toNat)) rfl ?_
    refine v_rng fun w15 => ?_
    have r16 : i3 (g 97 (((g 53 57) - 1).toNat)) := rI w15 (q := (((g 53 57) - 1).toNat)) (al 97 rfl hn) (wk97 dy) rfl rfl
    by_cases q21 : (g 97 (((g 53 57) - 1).toNat)) < 0 ∨ 2 < (g 97 (((g 53 57) - 1).toNat))
    · have h := h.1 q21
      refine v_tswOut 43 rfl r16 q21 (tgt := 188) rfl ?_
      refine v_aload_n 91 0 rfl rfl rfl ?_
      refine v_iload_n 92 2 rfl rfl rfl ?_
      refine v_callV (st := []) [I_ (g 98 (((g 53 57) - 1).toNat))] 93 rfl lv12_390_show_11 (al 53 rfl hn) (wk53 dy) (by decide) rfl (Nat.le_refl _) (Nat.le_refl _) ?_
      exact h
    by_cases q21_0 : (g 97 (((g 53 57) - 1).toNat)) = 0
    · have h := h.2.1 q21_0
      refine v_tswIn 43 rfl r16 (by omega) (by omega) (off := 25) (tgt := 100) (by rw [q21_0]; rfl) rfl ?_
      refine v_aload_n 44 0 rfl rfl rfl ?_
      refine v_iload_n 45 2 rfl rfl rfl ?_
      refine v_callV (st := []) [I_ (g 98 (((g 53 57) - 1).toNat))] 46 rfl lv12_400_show_11 (al 53 rfl hn) (wk53 dy) (by decide) rfl (Nat.le_refl _) (Nat.le_refl _) ?_
      exact h
    by_cases q21_1 : (g 97 (((g 53 57) - 1).toNat)) = 1
    · have h := h.2.2.1 q21_1
      refine v_tswIn 43 rfl r16 (by omega) (by omega) (off := 33) (tgt := 108) (by rw [q21_1]; rfl) rfl ?_
      refine v_iload_n 48 2 rfl rfl rfl ?_
      refine v_if_ge 49 rfl (tgt := 121) rfl r12 (fun q20 => ?_) (fun q20 => ?_)
      · have h := h.1 q20
        refine v_aload_n 54 0 rfl rfl rfl ?_
        refine v_aload_n 55 0 rfl rfl rfl ?_
        refine v_gK 56 rfl fl12_35_11.r (al 53 rfl hn) (wk53 dy) (by decide) rfl (r := 62) (wc53_11 dy) ?_
        refine v_iload_n 57 2 rfl rfl rfl ?_
        have c17 := h.1
        have h := h.2
        refine v_ia (N := 60) 58 rfl (al 62 rfl hn) (wk62 dy) (wn62 dy) (by decide) c17 (y := g 62 ((g 98 (((g 53 57) - 1).toNat)).toNat)) rfl ?_
        refine v_rng fun w18 => ?_
        have r19 : i3 (g 62 ((g 98 (((g 53 57) - 1).toNat)).toNat)) := rI w18 (q := ((g 98 (((g 53 57) - 1).toNat)).toNat)) (al 62 rfl hn) (wk62 dy) rfl rfl
        refine v_i2l 59 rfl r19 ?_
        refine v_callV (st := []) [L_ (g 62 ((g 98 (((g 53 57) - 1).toNat)).toNat))] 60 rfl lv12_403_show_11 (al 53 rfl hn) (wk53 dy) (by decide) rfl (Nat.le_refl _) (Nat.le_refl _) ?_
        exact h
      · have h := h.2 q20
        refine v_aload_n 50 0 rfl rfl rfl ?_
        refine v_bipush 51 rfl (by decide) ?_
        refine v_callV (st := []) [I_ 45] 52 rfl lv12_390_show_11 (al 53 rfl hn) (wk53 dy) (by decide) rfl (Nat.le_refl _) (Nat.le_refl _) ?_
        exact h
    by_cases q21_2 : (g 97 (((g 53 57) - 1).toNat)) = 2
    · have h := h.2.2.2 q21_2
      refine v_tswIn 43 rfl r16 (by omega) (by omega) (off := 72) (tgt := 147) (by rw [q21_2]; rfl) rfl ?_
      refine v_aload_n 69 0 rfl rfl rfl ?_
      refine v_bipush 70 rfl (by decide) ?_
      refine v_callV (st := []) [I_ 44] 71 rfl lv12_390_show_11 (al 53 rfl hn) (wk53 dy) (by decide) rfl (Nat.le_refl _) (Nat.le_refl _) ?_
      exact h
    exfalso; omega
set_option maxHeartbeats 8000000 in
set_option maxRecDepth 4000 in
theorem bX12_show_105 {d n : Nat} {dy : Nat → Shp} {g : Hp} {P : Pst} {x1 : Int} {x2 : Int} (hn : 100 ≤ n) (h : V miX12_show (d + 1) 193 [(0, .ref 53), (1, I_ x1), (2, I_ x2)] [] n (W0 dy) g 0 0 P) : V miX12_show (d + 1) 105 [(0, .ref 53), (1, I_ x1), (2, I_ x2)] [] n (W0 dy) g 0 0 P := by
  refine v_goto 47 rfl (tgt := 193) rfl ?_
  exact h
set_option maxHeartbeats 8000000 in
set_option maxRecDepth 4000 in
theorem bX12_show_118 {d n : Nat} {dy : Nat → Shp} {g : Hp} {P : Pst} {x1 : Int} {x2 : Int} (hn : 100 ≤ n) (h : V miX12_show (d + 1) 193 [(0, .ref 53), (1, I_ x1), (2, I_ x2)] [] n (W0 dy) g 0 0 P) : V miX12_show (d + 1) 118 [(0, .ref 53), (1, I_ x1), (2, I_ x2)] [] n (W0 dy) g 0 0 P := by
  refine v_goto 53 rfl (tgt := 193) rfl ?_
  exact h
set_option maxHeartbeats 8000000 in
set_option maxRecDepth 4000 in
theorem bX12_show_132 {d n : Nat} {dy : Nat → Shp} {g : Hp} {P : Pst} {x1 : Int} {x2 : Int} (hn : 100 ≤ n) (h : Runs miX12_put d [.ref 53, I_ 58] n (W0 dy) g (fun v n' S' g' => V miX12_show (d + 1) 138 [(0, .ref 53), (1, I_ x1), (2, I_ x2)] (v.toList ++ []) n' S' g' 0 0 P)) : V miX12_show (d + 1) 132 [(0, .ref 53), (1, I_ x1), (2, I_ x2)] [] n (W0 dy) g 0 0 P := by
  refine v_aload_n 61 0 rfl rfl rfl ?_
  refine v_bipush 62 rfl (by decide) ?_
  refine v_callV (st := []) [I_ 58] 63 rfl lv12_390_show_11 (al 53 rfl hn) (wk53 dy) (by decide) rfl (Nat.le_refl _) (Nat.le_refl _) ?_
  exact h
set_option maxHeartbeats 8000000 in
set_option maxRecDepth 4000 in
theorem bX12_show_138 {d n : Nat} {dy : Nat → Shp} {g : Hp} {P : Pst} {x1 : Int} {x2 : Int} (hn : 100 ≤ n) (h : Runs miX12_later d [.ref 53, I_ 0, I_ x2] n (W0 dy) g (fun v n' S' g' => V miX12_show (d + 1) 144 [(0, .ref 53), (1, I_ x1), (2, I_ x2)] (v.toList ++ []) n' S' g' 0 0 P)) : V miX12_show (d + 1) 138 [(0, .ref 53), (1, I_ x1), (2, I_ x2)] [] n (W0 dy) g 0 0 P := by
  refine v_aload_n 64 0 rfl rfl rfl ?_
  refine v_iconst 65 rfl ?_
  refine v_iload_n 66 2 rfl rfl rfl ?_
  refine v_callV (st := []) [I_ 0, I_ x2] 67 rfl lv12_396_show_11 (al 53 rfl hn) (wk53 dy) (by decide) rfl (Nat.le_refl _) (Nat.le_refl _) ?_
  exact h
set_option maxHeartbeats 8000000 in
set_option maxRecDepth 4000 in
theorem bX12_show_144 {d n : Nat} {dy : Nat → Shp} {g : Hp} {P : Pst} {x1 : Int} {x2 : Int} (hn : 100 ≤ n) (h : V miX12_show (d + 1) 193 [(0, .ref 53), (1, I_ x1), (2, I_ x2)] [] n (W0 dy) g 0 0 P) : V miX12_show (d + 1) 144 [(0, .ref 53), (1, I_ x1), (2, I_ x2)] [] n (W0 dy) g 0 0 P := by
  refine v_goto 68 rfl (tgt := 193) rfl ?_
  exact h
set_option maxHeartbeats 8000000 in
set_option maxRecDepth 4000 in
theorem bX12_show_153 {d n : Nat} {dy : Nat → Shp} {g : Hp} {P : Pst} {x1 : Int} {x2 : Int} (hn : 100 ≤ n) (h : (0 ≤ x2 ∧ x2 < 60) ∧ Runs miX12_putNumber d [.ref 53, L_ (g 64 x2.toNat)] n (W0 dy) g (fun v n' S' g' => V miX12_show (d + 1) 163 [(0, .ref 53), (1, I_ x1), (2, I_ x2)] (v.toList ++ []) n' S' g' 0 0 P)) : V miX12_show (d + 1) 153 [(0, .ref 53), (1, I_ x1), (2, I_ x2)] [] n (W0 dy) g 0 0 P := by
  refine v_aload_n 72 0 rfl rfl rfl ?_
  refine v_aload_n 73 0 rfl rfl rfl ?_
  refine v_gK 74 rfl fl12_41_11.r (al 53 rfl hn) (wk53 dy) (by decide) rfl (r := 64) (wc53_13 dy) ?_
  refine v_iload_n 75 2 rfl rfl rfl ?_
  have c1 := h.1
  have h := h.2
  refine v_la (N := 60) 76 rfl (al 64 rfl hn) (wk64 dy) (wn64 dy) (by decide) c1 (y := g 64 x2.toNat) rfl ?_
  refine v_rng fun w2 => ?_
  have r3 : i6 (g 64 x2.toNat) := rL w2 (q := x2.toNat) (al 64 rfl hn) (wk64 dy) rfl rfl
  refine v_callV (st := []) [L_ (g 64 x2.toNat)] 77 rfl lv12_403_show_11 (al 53 rfl hn) (wk53 dy) (by decide) rfl (Nat.le_refl _) (Nat.le_refl _) ?_
  exact h
set_option maxHeartbeats 8000000 in
set_option maxRecDepth 4000 in
theorem bX12_show_163 {d n : Nat} {dy : Nat → Shp} {g : Hp} {P : Pst} {x1 : Int} {x2 : Int} (hn : 100 ≤ n) (h : Runs miX12_put d [.ref 53, I_ 47] n (W0 dy) g (fun v n' S' g' => V miX12_show (d + 1) 169 [(0, .ref 53), (1, I_ x1), (2, I_ x2)] (v.toList ++ []) n' S' g' 0 0 P)) : V miX12_show (d + 1) 163 [(0, .ref 53), (1, I_ x1), (2, I_ x2)] [] n (W0 dy) g 0 0 P := by
  refine v_aload_n 78 0 rfl rfl rfl ?_
  refine v_bipush 79 rfl (by decide) ?_
  refine v_callV (st := []) [I_ 47] 80 rfl lv12_390_show_11 (al 53 rfl hn) (wk53 dy) (by decide) rfl (Nat.le_refl _) (Nat.le_refl _) ?_
  exact h
set_option maxHeartbeats 8000000 in
set_option maxRecDepth 4000 in
theorem bX12_show_169 {d n : Nat} {dy : Nat → Shp} {g : Hp} {P : Pst} {x1 : Int} {x2 : Int} (hn : 100 ≤ n) (h : (0 ≤ x2 ∧ x2 < 60) ∧ Runs miX12_putNumber d [.ref 53, L_ (g 65 x2.toNat)] n (W0 dy) g (fun v n' S' g' => V miX12_show (d + 1) 179 [(0, .ref 53), (1, I_ x1), (2, I_ x2)] (v.toList ++ []) n' S' g' 0 0 P)) : V miX12_show (d + 1) 169 [(0, .ref 53), (1, I_ x1), (2, I_ x2)] [] n (W0 dy) g 0 0 P := by
  refine v_aload_n 81 0 rfl rfl rfl ?_
  refine v_aload_n 82 0 rfl rfl rfl ?_
  refine v_gK 83 rfl fl12_44_11.r (al 53 rfl hn) (wk53 dy) (by decide) rfl (r := 65) (wc53_14 dy) ?_
  refine v_iload_n 84 2 rfl rfl rfl ?_
  have c1 := h.1
  have h := h.2
  refine v_la (N := 60) 85 rfl (al 65 rfl hn) (wk65 dy) (wn65 dy) (by decide) c1 (y := g 65 x2.toNat) rfl ?_
  refine v_rng fun w2 => ?_
  have r3 : i6 (g 65 x2.toNat) := rL w2 (q := x2.toNat) (al 65 rfl hn) (wk65 dy) rfl rfl
  refine v_callV (st := []) [L_ (g 65 x2.toNat)] 86 rfl lv12_403_show_11 (al 53 rfl hn) (wk53 dy) (by decide) rfl (Nat.le_refl _) (Nat.le_refl _) ?_
  exact h
set_option maxHeartbeats 8000000 in
set_option maxRecDepth 4000 in
theorem bX12_show_179 {d n : Nat} {dy : Nat → Shp} {g : Hp} {P : Pst} {x1 : Int} {x2 : Int} (hn : 100 ≤ n) (h : Runs miX12_put d [.ref 53, I_ 44] n (W0 dy) g (fun v n' S' g' => V miX12_show (d + 1) 185 [(0, .ref 53), (1, I_ x1), (2, I_ x2)] (v.toList ++ []) n' S' g' 0 0 P)) : V miX12_show (d + 1) 179 [(0, .ref 53), (1, I_ x1), (2, I_ x2)] [] n (W0 dy) g 0 0 P := by
  refine v_aload_n 87 0 rfl rfl rfl ?_
  refine v_bipush 88 rfl (by decide) ?_
  refine v_callV (st := []) [I_ 44] 89 rfl lv12_390_show_11 (al 53 rfl hn) (wk53 dy) (by decide) rfl (Nat.le_refl _) (Nat.le_refl _) ?_
  exact h
set_option maxHeartbeats 8000000 in
set_option maxRecDepth 4000 in
theorem bX12_show_185 {d n : Nat} {dy : Nat → Shp} {g : Hp} {P : Pst} {x1 : Int} {x2 : Int} (hn : 100 ≤ n) (h : V miX12_show (d + 1) 193 [(0, .ref 53), (1, I_ x1), (2, I_ x2)] [] n (W0 dy) g 0 0 P) : V miX12_show (d + 1) 185 [(0, .ref 53), (1, I_ x1), (2, I_ x2)] [] n (W0 dy) g 0 0 P := by
  refine v_goto 90 rfl (tgt := 193) rfl ?_
  exact h
set_option maxHeartbeats 8000000 in
set_option maxRecDepth 4000 in
theorem bX12_show_193 {d n : Nat} {dy : Nat → Shp} {g : Hp} {P : Pst} {x1 : Int} {x2 : Int} (hn : 100 ≤ n) (h : V miX12_show (d + 1) 39 [(0, .ref 53), (1, I_ x1)] [] n (W0 dy) g 0 0 P) : V miX12_show (d + 1) 193 [(0, .ref 53), (1, I_ x1), (2, I_ x2)] [] n (W0 dy) g 0 0 P := by
  refine v_goto 94 rfl (tgt := 39) rfl ?_
  refine v_loc [0, 1] rfl ?_
  exact h
theorem lv12_237_showPart_11 : LkV miX12_showPart miX12_isRod 237 1 11 := ⟨⟨⟨tbG_in (List.mem_append_right _ (List.mem_of_getElem? (i := 1428) (by decide +kernel))) rfl, tbG_in (List.mem_append_right _ (List.mem_of_getElem? (i := 9) (by decide +kernel))) rfl, tbG_in (List.mem_append_right _ (List.mem_of_getElem? (i := 1425) (by decide +kernel))) rfl⟩, ⟨by decide +kernel, by decide +kernel, by decide +kernel⟩, by decide⟩, tbG_in (List.mem_append_right _ (List.mem_of_getElem? (i := 1427) (by decide +kernel))) rfl, RX12, TX12, 58, rfl, tbG_in (List.mem_append_left _ (List.mem_of_getElem? (i := 60) (by decide +kernel))) rfl⟩
theorem lv12_390_showPart_11 : LkV miX12_showPart miX12_put 390 1 11 := ⟨⟨⟨tbG_in (List.mem_append_right _ (List.mem_of_getElem? (i := 1668) (by decide +kernel))) rfl, tbG_in (List.mem_append_right _ (List.mem_of_getElem? (i := 9) (by decide +kernel))) rfl, tbG_in (List.mem_append_right _ (List.mem_of_getElem? (i := 1665) (by decide +kernel))) rfl⟩, ⟨by decide +kernel, by decide +kernel, by decide +kernel⟩, by decide⟩, tbG_in (List.mem_append_right _ (List.mem_of_getElem? (i := 1667) (by decide +kernel))) rfl, RX12, TX12, 58, rfl, tbG_in (List.mem_append_left _ (List.mem_of_getElem? (i := 96) (by decide +kernel))) rfl⟩
theorem lv12_403_showPart_11 : LkV miX12_showPart miX12_putNumber 403 1 11 := ⟨⟨⟨tbG_in (List.mem_append_right _ (List.mem_of_getElem? (i := 1672) (by decide +kernel))) rfl, tbG_in (List.mem_append_right _ (List.mem_of_getElem? (i := 9) (by decide +kernel))) rfl, tbG_in (List.mem_append_right _ (List.mem_of_getElem? (i := 1669) (by decide +kernel))) rfl⟩, ⟨by decide +kernel, by decide +kernel, by decide +kernel⟩, by decide⟩, tbG_in (List.mem_append_right _ (List.mem_of_getElem? (i := 1671) (by decide +kernel))) rfl, RX12, TX12, 58, rfl, tbG_in (List.mem_append_left _ (List.mem_of_getElem? (i := 97) (by decide +kernel))) rfl⟩
theorem lv12_396_showPart_11 : LkV miX12_showPart miX12_later 396 2 11 := ⟨⟨⟨tbG_in (List.mem_append_right _ (List.mem_of_getElem? (i := 1660) (by decide +kernel))) rfl, tbG_in (List.mem_append_right _ (List.mem_of_getElem? (i := 9) (by decide +kernel))) rfl, tbG_in (List.mem_append_right _ (List.mem_of_getElem? (i := 1657) (by decide +kernel))) rfl⟩, ⟨by decide +kernel, by decide +kernel, by decide +kernel⟩, by decide⟩, tbG_in (List.mem_append_right _ (List.mem_of_getElem? (i := 1659) (by decide +kernel))) rfl, RX12, TX12, 58, rfl, tbG_in (List.mem_append_left _ (List.mem_of_getElem? (i := 94) (by decide +kernel))) rfl⟩
set_option maxHeartbeats 8000000 in
set_option maxRecDepth 4000 in
theorem bX12_showPart_0 {d n : Nat} {dy : Nat → Shp} {g : Hp} {P : Pst} {x1 : Int} (hn : 100 ≤ n) (h : Runs miX12_isRod d [.ref 53, I_ x1] n (W0 dy) g (fun v n' S' g' => V miX12_showPart (d + 1) 5 [(0, .ref 53), (1, I_ x1)] (v.toList ++ []) n' S' g' 0 0 P)) : V miX12_showPart (d + 1) 0 [(0, .ref 53), (1, I_ x1)] [] n (W0 dy) g 0 0 P := by
  refine v_aload_n 0 0 rfl rfl rfl ?_
  refine v_iload_n 1 1 rfl rfl rfl ?_
  refine v_callV (st := []) [I_ x1] 2 rfl lv12_237_showPart_11 (al 53 rfl hn) (wk53 dy) (by decide) rfl (Nat.le_refl _) (Nat.le_refl _) ?_
  exact h
set_option maxHeartbeats 8000000 in
set_option maxRecDepth 4000 in
theorem bX12_showPart_5 {d n : Nat} {dy : Nat → Shp} {g : Hp} {P : Pst} {x1 : Int} {xs0 : Int} (hn : 100 ≤ n) (h : (i3 xs0) ∧ ((xs0 ≠ 0) → Runs miX12_put d [.ref 53, I_ 40] n (W0 dy) g (fun v n' S' g' => V miX12_showPart (d + 1) 41 [(0, .ref 53), (1, I_ x1)] (v.toList ++ []) n' S' g' 0 0 P)) ∧ ((xs0 = 0) → (0 ≤ x1 ∧ x1 < 60) ∧ (((g 57 x1.toNat) ≠ 4) → V miX12_showPart (d + 1) 24 [(0, .ref 53), (1, I_ x1)] [] n (W0 dy) g 0 0 P) ∧ (((g 57 x1.toNat) = 4) → Runs miX12_put d [.ref 53, I_ 112] n (W0 dy) g (fun v n' S' g' => V miX12_showPart (d + 1) 24 [(0, .ref 53), (1, I_ x1)] (v.toList ++ []) n' S' g' 0 0 P)))) : V miX12_showPart (d + 1) 5 [(0, .ref 53), (1, I_ x1)] [I_ xs0] n (W0 dy) g 0 0 P := by
  have c1 := h.1
  have h := h.2
  refine v_if_ne 3 rfl (tgt := 35) rfl c1 (fun q6 => ?_) (fun q6 => ?_)
  · have h := h.1 q6
    refine v_aload_n 20 0 rfl rfl rfl ?_
    refine v_bipush 21 rfl (by decide) ?_
    refine v_callV (st := []) [I_ 40] 22 rfl lv12_390_showPart_11 (al 53 rfl hn) (wk53 dy) (by decide) rfl (Nat.le_refl _) (Nat.le_refl _) ?_
    exact h
  · have h := h.2 q6
    refine v_aload_n 4 0 rfl rfl rfl ?_
    refine v_gK 5 rfl fl12_20_11.r (al 53 rfl hn) (wk53 dy) (by decide) rfl (r := 57) (wc53_6 dy) ?_
    refine v_iload_n 6 1 rfl rfl rfl ?_
    have c2 := h.1
    have h := h.2
    refine v_ia (N := 60) 7 rfl (al 57 rfl hn) (wk57 dy) (wn57 dy) (by decide) c2 (y := g 57 x1.toNat) rfl ?_
    refine v_rng fun w3 => ?_
    have r4 : i3 (g 57 x1.toNat) := rI w3 (q := x1.toNat) (al 57 rfl hn) (wk57 dy) rfl rfl
    refine v_iconst 8 rfl ?_
    refine v_icmp_ne 9 rfl (tgt := 24) rfl r4 (by decide) (fun q5 => ?_) (fun q5 => ?_)
    · have h := h.1 q5
      exact h
    · have h := h.2 q5
      refine v_aload_n 10 0 rfl rfl rfl ?_
      refine v_bipush 11 rfl (by decide) ?_
      refine v_callV (st := []) [I_ 112] 12 rfl lv12_390_showPart_11 (al 53 rfl hn) (wk53 dy) (by decide) rfl (Nat.le_refl _) (Nat.le_refl _) ?_
      exact h
set_option maxHeartbeats 8000000 in
set_option maxRecDepth 4000 in
theorem bX12_showPart_24 {d n : Nat} {dy : Nat → Shp} {g : Hp} {P : Pst} {x1 : Int} (hn : 100 ≤ n) (h : (0 ≤ x1 ∧ x1 < 60) ∧ Runs miX12_putNumber d [.ref 53, L_ (g 63 x1.toNat)] n (W0 dy) g (fun v n' S' g' => V miX12_showPart (d + 1) 34 [(0, .ref 53), (1, I_ x1)] (v.toList ++ []) n' S' g' 0 0 P)) : V miX12_showPart (d + 1) 24 [(0, .ref 53), (1, I_ x1)] [] n (W0 dy) g 0 0 P := by
  refine v_aload_n 13 0 rfl rfl rfl ?_
  refine v_aload_n 14 0 rfl rfl rfl ?_
  refine v_gK 15 rfl fl12_38_11.r (al 53 rfl hn) (wk53 dy) (by decide) rfl (r := 63) (wc53_12 dy) ?_
  refine v_iload_n 16 1 rfl rfl rfl ?_
  have c1 := h.1
  have h := h.2
  refine v_la (N := 60) 17 rfl (al 63 rfl hn) (wk63 dy) (wn63 dy) (by decide) c1 (y := g 63 x1.toNat) rfl ?_
  refine v_rng fun w2 => ?_
  have r3 : i6 (g 63 x1.toNat) := rL w2 (q := x1.toNat) (al 63 rfl hn) (wk63 dy) rfl rfl
  refine v_callV (st := []) [L_ (g 63 x1.toNat)] 18 rfl lv12_403_showPart_11 (al 53 rfl hn) (wk53 dy) (by decide) rfl (Nat.le_refl _) (Nat.le_refl _) ?_
  exact h
set_option maxHeartbeats 8000000 in
set_option maxRecDepth 4000 in
theorem bX12_showPart_34 {d n : Nat} {dy : Nat → Shp} {g : Hp} {P : Pst} {x1 : Int} (hn : 100 ≤ n) (h : P none n (W0 dy) g) : V miX12_showPart (d + 1) 34 [(0, .ref 53), (1, I_ x1)] [] n (W0 dy) g 0 0 P := by
  exact v_ret (v := none) 19 rfl (Nat.zero_le _) (Nat.zero_le _) trivial rfl h
set_option maxHeartbeats 8000000 in
set_option maxRecDepth 4000 in
theorem bX12_showPart_41 {d n : Nat} {dy : Nat → Shp} {g : Hp} {P : Pst} {x1 : Int} (hn : 100 ≤ n) (h : Runs miX12_later d [.ref 53, I_ 3, I_ 41] n (W0 dy) g (fun v n' S' g' => V miX12_showPart (d + 1) 48 [(0, .ref 53), (1, I_ x1)] (v.toList ++ []) n' S' g' 0 0 P)) : V miX12_showPart (d + 1) 41 [(0, .ref 53), (1, I_ x1)] [] n (W0 dy) g 0 0 P := by
  refine v_aload_n 23 0 rfl rfl rfl ?_
  refine v_iconst 24 rfl ?_
  refine v_bipush 25 rfl (by decide) ?_
  refine v_callV (st := []) [I_ 3, I_ 41] 26 rfl lv12_396_showPart_11 (al 53 rfl hn) (wk53 dy) (by decide) rfl (Nat.le_refl _) (Nat.le_refl _) ?_
  exact h
set_option maxHeartbeats 8000000 in
set_option maxRecDepth 4000 in
theorem bX12_showPart_48 {d n : Nat} {dy : Nat → Shp} {g : Hp} {P : Pst} {x1 : Int} (hn : 100 ≤ n) (h : (0 ≤ x1 ∧ x1 < 60) ∧ Runs miX12_later d [.ref 53, I_ 1, I_ (g 67 x1.toNat)] n (W0 dy) g (fun v n' S' g' => V miX12_showPart (d + 1) 59 [(0, .ref 53), (1, I_ x1)] (v.toList ++ []) n' S' g' 0 0 P)) : V miX12_showPart (d + 1) 48 [(0, .ref 53), (1, I_ x1)] [] n (W0 dy) g 0 0 P := by
  refine v_aload_n 27 0 rfl rfl rfl ?_
  refine v_iconst 28 rfl ?_
  refine v_aload_n 29 0 rfl rfl rfl ?_
  refine v_gK 30 rfl fl12_50_11.r (al 53 rfl hn) (wk53 dy) (by decide) rfl (r := 67) (wc53_16 dy) ?_
  refine v_iload_n 31 1 rfl rfl rfl ?_
  have c1 := h.1
  have h := h.2
  refine v_ia (N := 60) 32 rfl (al 67 rfl hn) (wk67 dy) (wn67 dy) (by decide) c1 (y := g 67 x1.toNat) rfl ?_
  refine v_rng fun w2 => ?_
  have r3 : i3 (g 67 x1.toNat) := rI w2 (q := x1.toNat) (al 67 rfl hn) (wk67 dy) rfl rfl
  refine v_callV (st := []) [I_ 1, I_ (g 67 x1.toNat)] 33 rfl lv12_396_showPart_11 (al 53 rfl hn) (wk53 dy) (by decide) rfl (Nat.le_refl _) (Nat.le_refl _) ?_
  exact h
set_option maxHeartbeats 8000000 in
set_option maxRecDepth 4000 in
theorem bX12_showPart_59 {d n : Nat} {dy : Nat → Shp} {g : Hp} {P : Pst} {x1 : Int} (hn : 100 ≤ n) (h : Runs miX12_later d [.ref 53, I_ 2, I_ x1] n (W0 dy) g (fun v n' S' g' => V miX12_showPart (d + 1) 65 [(0, .ref 53), (1, I_ x1)] (v.toList ++ []) n' S' g' 0 0 P)) : V miX12_showPart (d + 1) 59 [(0, .ref 53), (1, I_ x1)] [] n (W0 dy) g 0 0 P := by
  refine v_aload_n 34 0 rfl rfl rfl ?_
  refine v_iconst 35 rfl ?_
  refine v_iload_n 36 1 rfl rfl rfl ?_
  refine v_callV (st := []) [I_ 2, I_ x1] 37 rfl lv12_396_showPart_11 (al 53 rfl hn) (wk53 dy) (by decide) rfl (Nat.le_refl _) (Nat.le_refl _) ?_
  exact h
set_option maxHeartbeats 8000000 in
set_option maxRecDepth 4000 in
theorem bX12_showPart_65 {d n : Nat} {dy : Nat → Shp} {g : Hp} {P : Pst} {x1 : Int} (hn : 100 ≤ n) (h : (0 ≤ x1 ∧ x1 < 60) ∧ Runs miX12_later d [.ref 53, I_ 1, I_ (g 66 x1.toNat)] n (W0 dy) g (fun v n' S' g' => V miX12_showPart (d + 1) 76 [(0, .ref 53), (1, I_ x1)] (v.toList ++ []) n' S' g' 0 0 P)) : V miX12_showPart (d + 1) 65 [(0, .ref 53), (1, I_ x1)] [] n (W0 dy) g 0 0 P := by
  refine v_aload_n 38 0 rfl rfl rfl ?_
  refine v_iconst 39 rfl ?_
  refine v_aload_n 40 0 rfl rfl rfl ?_
  refine v_gK 41 rfl fl12_47_11.r (al 53 rfl hn) (wk53 dy) (by decide) rfl (r := 66) (wc53_15 dy) ?_
  refine v_iload_n 42 1 rfl rfl rfl ?_
  have c1 := h.1
  have h := h.2
  refine v_ia (N := 60) 43 rfl (al 66 rfl hn) (wk66 dy) (wn66 dy) (by decide) c1 (y := g 66 x1.toNat) rfl ?_
  refine v_rng fun w2 => ?_
  have r3 : i3 (g 66 x1.toNat) := rI w2 (q := x1.toNat) (al 66 rfl hn) (wk66 dy) rfl rfl
  refine v_callV (st := []) [I_ 1, I_ (g 66 x1.toNat)] 44 rfl lv12_396_showPart_11 (al 53 rfl hn) (wk53 dy) (by decide) rfl (Nat.le_refl _) (Nat.le_refl _) ?_
  exact h
set_option maxHeartbeats 8000000 in
set_option maxRecDepth 4000 in
theorem bX12_showPart_76 {d n : Nat} {dy : Nat → Shp} {g : Hp} {P : Pst} {x1 : Int} (hn : 100 ≤ n) (h : P none n (W0 dy) g) : V miX12_showPart (d + 1) 76 [(0, .ref 53), (1, I_ x1)] [] n (W0 dy) g 0 0 P := by
  exact v_ret (v := none) 45 rfl (Nat.zero_le _) (Nat.zero_le _) trivial rfl h
theorem ls12_188_out : LkS miX12_out miJ9_min_7cf53 188 2 := ⟨⟨⟨tbG_in (List.mem_append_right _ (List.mem_of_getElem? (i := 501) (by decide +kernel))) rfl, tbG_in (List.mem_append_right _ (List.mem_of_getElem? (i := 15) (by decide +kernel))) rfl, tbG_in (List.mem_append_right _ (List.mem_of_getElem? (i := 1379) (by decide +kernel))) rfl⟩, ⟨by decide +kernel, by decide +kernel, by decide +kernel⟩, by decide⟩, tbG_in (List.mem_append_right _ (List.mem_of_getElem? (i := 500) (by decide +kernel))) rfl⟩
set_option maxHeartbeats 8000000 in
set_option maxRecDepth 4000 in
theorem bX12_out_0 {d n : Nat} {dy : Nat → Shp} {g : Hp} {P : Pst} {x1 : Int} (hn : 100 ≤ n) (h : (i3 x1) ∧ ((x1 < 0) → V miX12_out (d + 1) 23 [(0, .ref 53), (1, I_ x1)] [] n (W0 dy) (up2 g 53 1 0) 0 0 P) ∧ ((0 ≤ x1) → Runs miJ9_min_7cf53 d [I_ (g 53 29), I_ 600] n (W0 dy) (up2 g 53 1 0) (fun v n' S' g' => V miX12_out (d + 1) 20 [(0, .ref 53), (1, I_ x1)] (v.toList ++ [I_ x1]) n' S' g' 0 0 P))) : V miX12_out (d + 1) 0 [(0, .ref 53), (1, I_ x1)] [] n (W0 dy) g 0 0 P := by
  refine v_aload_n 0 0 rfl rfl rfl ?_
  refine v_iconst 1 rfl ?_
  refine v_putI 2 rfl fl12_148_11 (al 53 rfl hn) (wk53 dy) (by decide) rfl (wc53_1 dy) (by decide) ?_
  refine v_iload_n 3 1 rfl rfl rfl ?_
  have c1 := h.1
  have h := h.2
  refine v_if_lt 4 rfl (tgt := 23) rfl c1 (fun q4 => ?_) (fun q4 => ?_)
  · have h := h.1 q4
    exact h
  · have h := h.2 q4
    refine v_iload_n 5 1 rfl rfl rfl ?_
    refine v_aload_n 6 0 rfl rfl rfl ?_
    refine v_gI 7 rfl fl12_381_11.r (al 53 rfl hn) (wk53 dy) (by decide) rfl (wc53_29 dy) (x := g 53 29) rfl ?_
    refine v_rng fun w2 => ?_
    have r3 : i3 (g 53 29) := rI w2 (q := 29) (al 53 rfl hn) (wk53 dy) rfl rfl
    refine v_sipush 8 rfl (by decide) ?_
    refine v_callS (st := [I_ x1]) [I_ (g 53 29), I_ 600] 9 rfl ls12_188_out rfl (Nat.lt_of_lt_of_le (by decide) hn) (Nat.le_refl _) (Nat.le_refl _) ?_
    exact h
set_option maxHeartbeats 8000000 in
set_option maxRecDepth 4000 in
theorem bX12_out_20 {d n : Nat} {dy : Nat → Shp} {g : Hp} {P : Pst} {x1 : Int} {xs0 : Int} {xs1 : Int} (hn : 100 ≤ n) (h : (i3 xs0) ∧ (i3 xs1) ∧ ((xs0 < xs1) → (0 ≤ x1 ∧ x1 < 600) ∧ P (some (I_ (g 78 x1.toNat))) n (W0 dy) g) ∧ ((xs1 ≤ xs0) → V miX12_out (d + 1) 23 [(0, .ref 53), (1, I_ x1)] [] n (W0 dy) g 0 0 P)) : V miX12_out (d + 1) 20 [(0, .ref 53), (1, I_ x1)] [I_ xs1, I_ xs0] n (W0 dy) g 0 0 P := by
  have c1 := h.1
  have h := h.2
  have c2 := h.1
  have h := h.2
  refine v_icmp_lt 10 rfl (tgt := 30) rfl c1 c2 (fun q6 => ?_) (fun q6 => ?_)
  · have h := h.1 q6
    refine v_aload_n 16 0 rfl rfl rfl ?_
    refine v_gK 17 rfl fl12_84_11.r (al 53 rfl hn) (wk53 dy) (by decide) rfl (r := 78) (wc53_28 dy) ?_
    refine v_iload_n 18 1 rfl rfl rfl ?_
    have c3 := h.1
    have h := h.2
    refine v_ba (N := 600) 19 rfl (al 78 rfl hn) (wk78 dy) (wn78 dy) (by decide) c3 (y := g 78 x1.toNat) rfl ?_
    refine v_rng fun w4 => ?_
    have r5 : i3 (g 78 x1.toNat) := rI w4 (q := x1.toNat) (al 78 rfl hn) (wk78 dy) rfl rfl
    exact v_ret (v := some (I_ (g 78 x1.toNat))) 20 rfl (Nat.zero_le _) (Nat.zero_le _) trivial rfl h
  · have h := h.2 q6
    exact h
set_option maxHeartbeats 8000000 in
set_option maxRecDepth 4000 in
theorem bX12_out_23 {d n : Nat} {dy : Nat → Shp} {g : Hp} {P : Pst} {x1 : Int} (hn : 100 ≤ n) (h : P (some (I_ 0)) n (W0 dy) (up2 g 53 1 1)) : V miX12_out (d + 1) 23 [(0, .ref 53), (1, I_ x1)] [] n (W0 dy) g 0 0 P := by
  refine v_aload_n 11 0 rfl rfl rfl ?_
  refine v_iconst 12 rfl ?_
  refine v_putI 13 rfl fl12_148_11 (al 53 rfl hn) (wk53 dy) (by decide) rfl (wc53_1 dy) (by decide) ?_
  refine v_iconst 14 rfl ?_
  exact v_ret (v := some (I_ 0)) 15 rfl (Nat.zero_le _) (Nat.zero_le _) trivial rfl h
