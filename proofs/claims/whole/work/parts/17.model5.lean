theorem fl12_136_11 : FL RX12 136 11 53 true (.array .long) := ⟨RX12, TX12, 58, "MobileMakerModel", rfl, rfl, by decide, kf11, tbG_in (List.mem_append_right _ (List.mem_of_getElem? (i := 1180) (by decide +kernel))) rfl, Or.inl rfl, rfl, by decide +kernel, ⟨tyX12, tyX12_ok⟩, nmX12, fun _ => rfl⟩
theorem fl12_133_11 : FL RX12 133 11 52 true (.array .int) := ⟨RX12, TX12, 58, "MobileMakerModel", rfl, rfl, by decide, kf11, tbG_in (List.mem_append_right _ (List.mem_of_getElem? (i := 1179) (by decide +kernel))) rfl, Or.inl rfl, rfl, by decide +kernel, ⟨tyX12, tyX12_ok⟩, nmX12, fun _ => rfl⟩
theorem lv12_357_waysOf_11 : LkV miX12_waysOf miX12_isFirstOf 357 2 11 := ⟨⟨⟨tbG_in (List.mem_append_right _ (List.mem_of_getElem? (i := 1618) (by decide +kernel))) rfl, tbG_in (List.mem_append_right _ (List.mem_of_getElem? (i := 9) (by decide +kernel))) rfl, tbG_in (List.mem_append_right _ (List.mem_of_getElem? (i := 1615) (by decide +kernel))) rfl⟩, ⟨by decide +kernel, by decide +kernel, by decide +kernel⟩, by decide⟩, tbG_in (List.mem_append_right _ (List.mem_of_getElem? (i := 1617) (by decide +kernel))) rfl, RX12, TX12, 58, rfl, tbG_in (List.mem_append_left _ (List.mem_of_getElem? (i := 91) (by decide +kernel))) rfl⟩
set_option maxHeartbeats 8000000 in
set_option maxRecDepth 4000 in
theorem bX12_waysOf_0 {d n : Nat} {dy : Nat → Shp} {g : Hp} {P : Pst} {x1 : Int} (hn : 100 ≤ n) (h : V miX12_waysOf (d + 1) 2 [(0, .ref 53), (1, I_ x1), (2, I_ 0)] [] n (W0 dy) g 0 0 P) : V miX12_waysOf (d + 1) 0 [(0, .ref 53), (1, I_ x1)] [] n (W0 dy) g 0 0 P := by
  refine v_iconst 0 rfl ?_
  refine v_istore_n 1 [1, 2, 0] rfl rfl (by decide) rfl ?_
  exact h
set_option maxHeartbeats 8000000 in
set_option maxRecDepth 4000 in
theorem bX12_waysOf_2 {d n : Nat} {dy : Nat → Shp} {g : Hp} {P : Pst} {x1 : Int} {x2 : Int} (hn : 100 ≤ n) (h : (i3 x2) ∧ (((shl3 1 (g 53 42)) ≤ x2) → V miX12_waysOf (d + 1) 100 [(0, .ref 53), (1, I_ x1), (2, I_ ((g 53 41) - 1))] [] n (W0 dy) g 0 0 P) ∧ ((x2 < (shl3 1 (g 53 42))) → (0 ≤ x2 ∧ x2 < 1024) ∧ V miX12_waysOf (d + 1) 21 [(0, .ref 53), (1, I_ x1), (2, I_ x2), (3, I_ 0)] [] n (W0 dy) (up2 g 95 x2.toNat 0) 0 0 P)) : V miX12_waysOf (d + 1) 2 [(0, .ref 53), (1, I_ x1), (2, I_ x2)] [] n (W0 dy) g 0 0 P := by
  refine v_iload_n 2 2 rfl rfl rfl ?_
  refine v_iconst 3 rfl ?_
  refine v_aload_n 4 0 rfl rfl rfl ?_
  refine v_gI 5 rfl fl12_351_11.r (al 53 rfl hn) (wk53 dy) (by decide) rfl (wc53_42 dy) (x := g 53 42) rfl ?_
  refine v_rng fun w1 => ?_
  have p2 : i3 (g 53 42) := rI w1 (q := 42) (al 53 rfl hn) (wk53 dy) rfl rfl
  refine v_ishl 6 rfl ?_
  have c3 := h.1
  have h := h.2
  refine v_icmp_ge 7 rfl (tgt := 93) rfl c3 (shl3_r _ _) (fun q4 => ?_) (fun q4 => ?_)
  · have h := h.1 q4
    refine v_aload_n 57 0 rfl rfl rfl ?_
    refine v_gI 58 rfl fl12_340_11.r (al 53 rfl hn) (wk53 dy) (by decide) rfl (wc53_41 dy) (x := g 53 41) rfl ?_
    refine v_rng fun w5 => ?_
    have p6 : i3 (g 53 41) := rI w5 (q := 41) (al 53 rfl hn) (wk53 dy) rfl rfl
    refine v_iconst 59 rfl ?_
    refine v_isub 60 rfl ?_
    refine v_istore_n 61 [1, 2, 0] rfl rfl (by decide) rfl ?_
    exact h
  · have h := h.2 q4
    refine v_aload_n 8 0 rfl rfl rfl ?_
    refine v_gK 9 rfl fl12_136_11.r (al 53 rfl hn) (wk53 dy) (by decide) rfl (r := 95) (wc53_53 dy) ?_
    refine v_iload_n 10 2 rfl rfl rfl ?_
    refine v_lconst (v := 0) 11 rfl (by decide) ?_
    have c7 := h.1
    have h := h.2
    refine v_last (N := 1024) 12 rfl (al 95 rfl hn) (wk95 dy) (wn95 dy) (by decide) c7 (by decide) ?_
    refine v_iconst 13 rfl ?_
    refine v_istore_n 14 [1, 2, 3, 0] rfl rfl (by decide) rfl ?_
    exact h
set_option maxHeartbeats 8000000 in
set_option maxRecDepth 4000 in
theorem bX12_waysOf_21 {d n : Nat} {dy : Nat → Shp} {g : Hp} {P : Pst} {x1 : Int} {x2 : Int} {x3 : Int} (hn : 100 ≤ n) (h : (i3 x3) ∧ (((g 53 42) ≤ x3) → (i3 x2) ∧ ((x2 ≠ 0) → (0 ≤ (1024 * (g 53 41)) + x2 ∧ (1024 * (g 53 41)) + x2 < 9216) ∧ V miX12_waysOf (d + 1) 2 [(0, .ref 53), (1, I_ x1), (2, I_ (x2 + 1))] [] n (W0 dy) (up2 g 94 (((1024 * (g 53 41)) + x2).toNat) 0) 0 0 P) ∧ ((x2 = 0) → (0 ≤ (1024 * (g 53 41)) + x2 ∧ (1024 * (g 53 41)) + x2 < 9216) ∧ V miX12_waysOf (d + 1) 2 [(0, .ref 53), (1, I_ x1), (2, I_ (x2 + 1))] [] n (W0 dy) (up2 g 94 (((1024 * (g 53 41)) + x2).toNat) 1) 0 0 P)) ∧ ((x3 < (g 53 42)) → (0 ≤ x2 ∧ x2 < 1024) ∧ (((and3 (shr3 x2 x3) 1) ≠ 1) → (i6 ((g 95 x2.toNat) + 0)) ∧ V miX12_waysOf (d + 1) 21 [(0, .ref 53), (1, I_ x1), (2, I_ x2), (3, I_ (x3 + 1))] [] n (W0 dy) (up2 g 95 x2.toNat ((g 95 x2.toNat) + 0)) 0 0 P) ∧ (((and3 (shr3 x2 x3) 1) = 1) → (0 ≤ x3 ∧ x3 < 10) ∧ ∀ y19 : Int, y19 = (g 95 x2.toNat) + (g 89 x3.toNat) → (i6 y19) ∧ V miX12_waysOf (d + 1) 21 [(0, .ref 53), (1, I_ x1), (2, I_ x2), (3, I_ (x3 + 1))] [] n (W0 dy) (up2 g 95 x2.toNat y19) 0 0 P))) : V miX12_waysOf (d + 1) 21 [(0, .ref 53), (1, I_ x1), (2, I_ x2), (3, I_ x3)] [] n (W0 dy) g 0 0 P := by
  refine v_iload_n 15 3 rfl rfl rfl ?_
  refine v_aload_n 16 0 rfl rfl rfl ?_
  refine v_gI 17 rfl fl12_351_11.r (al 53 rfl hn) (wk53 dy) (by decide) rfl (wc53_42 dy) (x := g 53 42) rfl ?_
  refine v_rng fun w1 => ?_
  have p2 : i3 (g 53 42) := rI w1 (q := 42) (al 53 rfl hn) (wk53 dy) rfl rfl
  have c3 := h.1
  have h := h.2
  refine v_icmp_ge 18 rfl (tgt := 63) rfl c3 p2 (fun q4 => ?_) (fun q4 => ?_)
  · have h := h.1 q4
    refine v_aload_n 41 0 rfl rfl rfl ?_
    refine v_gK 42 rfl fl12_133_11.r (al 53 rfl hn) (wk53 dy) (by decide) rfl (r := 94) (wc53_52 dy) ?_
    refine v_sipush 43 rfl (by decide) ?_
    refine v_aload_n 44 0 rfl rfl rfl ?_
    refine v_gI 45 rfl fl12_340_11.r (al 53 rfl hn) (wk53 dy) (by decide) rfl (wc53_41 dy) (x := g 53 41) rfl ?_
    refine v_rng fun w5 => ?_
    have p6 : i3 (g 53 41) := rI w5 (q := 41) (al 53 rfl hn) (wk53 dy) rfl rfl
    refine v_imul 46 rfl ?_
    refine v_iload_n 47 2 rfl rfl rfl ?_
    refine v_iadd 48 rfl ?_
    refine v_iload_n 49 2 rfl rfl rfl ?_
    have c7 := h.1
    have h := h.2
    refine v_if_ne 50 rfl (tgt := 85) rfl c7 (fun q8 => ?_) (fun q8 => ?_)
    · have h := h.1 q8
      refine v_iconst 53 rfl ?_
      have c9 := h.1
      have h := h.2
      refine v_iast (N := 9216) 54 rfl (al 94 rfl hn) (wk94 dy) (wn94 dy) (by decide) c9 (by decide) ?_
      refine v_iinc 55 2 [1, 2, 0, 3] rfl rfl (by decide) rfl ?_
      refine v_goto 56 rfl (tgt := 2) rfl ?_
      refine v_loc [0, 1, 2] rfl ?_
      exact h
    · have h := h.2 q8
      refine v_iconst 51 rfl ?_
      refine v_goto 52 rfl (tgt := 86) rfl ?_
      have c10 := h.1
      have h := h.2
      refine v_iast (N := 9216) 54 rfl (al 94 rfl hn) (wk94 dy) (wn94 dy) (by decide) c10 (by decide) ?_
      refine v_iinc 55 2 [1, 2, 0, 3] rfl rfl (by decide) rfl ?_
      refine v_goto 56 rfl (tgt := 2) rfl ?_
      refine v_loc [0, 1, 2] rfl ?_
      exact h
  · have h := h.2 q4
    refine v_aload_n 19 0 rfl rfl rfl ?_
    refine v_gK 20 rfl fl12_136_11.r (al 53 rfl hn) (wk53 dy) (by decide) rfl (r := 95) (wc53_53 dy) ?_
    refine v_iload_n 21 2 rfl rfl rfl ?_
    refine v_dup2 22 rfl (by intro h; cases h) (by intro h; cases h) ?_
    have c11 := h.1
    have h := h.2
    refine v_la (N := 1024) 23 rfl (al 95 rfl hn) (wk95 dy) (wn95 dy) (by decide) c11 (y := g 95 x2.toNat) rfl ?_
    refine v_rng fun w12 => ?_
    have p13 : i6 (g 95 x2.toNat) := rL w12 (q := x2.toNat) (al 95 rfl hn) (wk95 dy) rfl rfl
    refine v_iload_n 24 2 rfl rfl rfl ?_
    refine v_iload_n 25 3 rfl rfl rfl ?_
    refine v_ishr 26 rfl ?_
    refine v_iconst 27 rfl ?_
    refine v_iand 28 rfl ?_
    refine v_iconst 29 rfl ?_
    refine v_icmp_ne 30 rfl (tgt := 54) rfl (and3_r _ _) (by decide) (fun q14 => ?_) (fun q14 => ?_)
    · have h := h.1 q14
      refine v_lconst (v := 0) 36 rfl (by decide) ?_
      refine v_ladd 37 rfl ?_
      have c15 := h.1
      have h := h.2
      refine v_last (N := 1024) 38 rfl (al 95 rfl hn) (wk95 dy) (wn95 dy) (by decide) c11 c15 ?_
      refine v_iinc 39 3 [1, 2, 3, 0] rfl rfl (by decide) rfl ?_
      refine v_goto 40 rfl (tgt := 21) rfl ?_
      exact h
    · have h := h.2 q14
      refine v_aload_n 31 0 rfl rfl rfl ?_
      refine v_gK 32 rfl fl12_118_11.r (al 53 rfl hn) (wk53 dy) (by decide) rfl (r := 89) (wc53_46 dy) ?_
      refine v_iload_n 33 3 rfl rfl rfl ?_
      have c16 := h.1
      have h := h.2
      refine v_la (N := 10) 34 rfl (al 89 rfl hn) (wk89 dy) (wn89 dy) (by decide) c16 (y := g 89 x3.toNat) rfl ?_
      refine v_rng fun w17 => ?_
      have p18 : i6 (g 89 x3.toNat) := rL w17 (q := x3.toNat) (al 89 rfl hn) (wk89 dy) rfl rfl
      refine v_goto 35 rfl (tgt := 55) rfl ?_
      refine v_ladd 37 rfl ?_
      refine v_nmL (fun y19 ey19 => ?_)
      have h := h y19 ey19
      have c20 := h.1
      have h := h.2
      refine v_last (N := 1024) 38 rfl (al 95 rfl hn) (wk95 dy) (wn95 dy) (by decide) c11 c20 ?_
      refine v_iinc 39 3 [1, 2, 3, 0] rfl rfl (by decide) rfl ?_
      refine v_goto 40 rfl (tgt := 21) rfl ?_
      exact h
set_option maxHeartbeats 8000000 in
set_option maxRecDepth 4000 in
theorem bX12_waysOf_100 {d n : Nat} {dy : Nat → Shp} {g : Hp} {P : Pst} {x1 : Int} {x2 : Int} (hn : 100 ≤ n) (h : (i3 x2) ∧ ((x2 < 0) → (0 ≤ x1 ∧ x1 < 9216) ∧ P (some (I_ (g 94 x1.toNat))) n (W0 dy) g) ∧ ((0 ≤ x2) → V miX12_waysOf (d + 1) 106 [(0, .ref 53), (1, I_ x1), (2, I_ x2), (3, I_ 0)] [] n (W0 dy) g 0 0 P)) : V miX12_waysOf (d + 1) 100 [(0, .ref 53), (1, I_ x1), (2, I_ x2)] [] n (W0 dy) g 0 0 P := by
  refine v_iload_n 62 2 rfl rfl rfl ?_
  have c1 := h.1
  have h := h.2
  refine v_if_lt 63 rfl (tgt := 276) rfl c1 (fun q2 => ?_) (fun q2 => ?_)
  · have h := h.1 q2
    refine v_aload_n 168 0 rfl rfl rfl ?_
    refine v_gK 169 rfl fl12_133_11.r (al 53 rfl hn) (wk53 dy) (by decide) rfl (r := 94) (wc53_52 dy) ?_
    refine v_iload_n 170 1 rfl rfl rfl ?_
    have c3 := h.1
    have h := h.2
    refine v_ia (N := 9216) 171 rfl (al 94 rfl hn) (wk94 dy) (wn94 dy) (by decide) c3 (y := g 94 x1.toNat) rfl ?_
    refine v_rng fun w4 => ?_
    have p5 : i3 (g 94 x1.toNat) := rI w4 (q := x1.toNat) (al 94 rfl hn) (wk94 dy) rfl rfl
    exact v_ret (v := some (I_ (g 94 x1.toNat))) 172 rfl (Nat.zero_le _) (Nat.zero_le _) trivial rfl h
  · have h := h.2 q2
    refine v_iconst 64 rfl ?_
    refine v_istore_n 65 [1, 2, 3, 0] rfl rfl (by decide) rfl ?_
    exact h
set_option maxHeartbeats 8000000 in
set_option maxRecDepth 4000 in
theorem bX12_waysOf_106 {d n : Nat} {dy : Nat → Shp} {g : Hp} {P : Pst} {x1 : Int} {x2 : Int} {x3 : Int} (hn : 100 ≤ n) (h : (i3 x3) ∧ (((shl3 1 (g 53 42)) ≤ x3) → V miX12_waysOf (d + 1) 100 [(0, .ref 53), (1, I_ x1), (2, I_ (x2 + (-1)))] [] n (W0 dy) g 0 0 P) ∧ ((x3 < (shl3 1 (g 53 42))) → (((and3 x3 x1) = x3) → V miX12_waysOf (d + 1) 132 [(0, .ref 53), (1, I_ x1), (2, I_ x2), (3, I_ x3), (4, I_ 0), (5, I_ x3)] [] n (W0 dy) g 0 0 P) ∧ (((and3 x3 x1) ≠ x3) → V miX12_waysOf (d + 1) 106 [(0, .ref 53), (1, I_ x1), (2, I_ x2), (3, I_ (x3 + 1))] [] n (W0 dy) g 0 0 P))) : V miX12_waysOf (d + 1) 106 [(0, .ref 53), (1, I_ x1), (2, I_ x2), (3, I_ x3)] [] n (W0 dy) g 0 0 P := by
  refine v_iload_n 66 3 rfl rfl rfl ?_
  refine v_iconst 67 rfl ?_
  refine v_aload_n 68 0 rfl rfl rfl ?_
  refine v_gI 69 rfl fl12_351_11.r (al 53 rfl hn) (wk53 dy) (by decide) rfl (wc53_42 dy) (x := g 53 42) rfl ?_
  refine v_rng fun w1 => ?_
  have p2 : i3 (g 53 42) := rI w1 (q := 42) (al 53 rfl hn) (wk53 dy) rfl rfl
  refine v_ishl 70 rfl ?_
  have c3 := h.1
  have h := h.2
  refine v_icmp_ge 71 rfl (tgt := 270) rfl c3 (shl3_r _ _) (fun q4 => ?_) (fun q4 => ?_)
  · have h := h.1 q4
    refine v_iinc 166 2 [1, 2, 0, 3] rfl rfl (by decide) rfl ?_
    refine v_goto 167 rfl (tgt := 100) rfl ?_
    refine v_loc [0, 1, 2] rfl ?_
    exact h
  · have h := h.2 q4
    refine v_iload_n 72 3 rfl rfl rfl ?_
    refine v_iload_n 73 1 rfl rfl rfl ?_
    refine v_iand 74 rfl ?_
    refine v_iload_n 75 3 rfl rfl rfl ?_
    refine v_icmp_eq 76 rfl (tgt := 126) rfl (and3_r _ _) c3 (fun q5 => ?_) (fun q5 => ?_)
    · have h := h.1 q5
      refine v_iconst 78 rfl ?_
      refine v_istore 79 [1, 2, 3, 4, 0] rfl (by decide) rfl ?_
      refine v_iload_n 80 3 rfl rfl rfl ?_
      refine v_istore 81 [1, 2, 3, 4, 5, 0] rfl (by decide) rfl ?_
      exact h
    · have h := h.2 q5
      refine v_goto 77 rfl (tgt := 264) rfl ?_
      refine v_iinc 164 3 [1, 2, 3, 0] rfl rfl (by decide) rfl ?_
      refine v_goto 165 rfl (tgt := 106) rfl ?_
      exact h
set_option maxHeartbeats 8000000 in
set_option maxRecDepth 4000 in
theorem bX12_waysOf_132 {d n : Nat} {dy : Nat → Shp} {g : Hp} {P : Pst} {x1 : Int} {x2 : Int} {x3 : Int} {x4 : Int} {x5 : Int} (hn : 100 ≤ n) (h : (i3 x5) ∧ ((x5 ≤ 0) → (0 ≤ x2 ∧ x2 < 8) ∧ (((g 88 x2.toNat) ≠ 0) → (0 ≤ (1024 * x2) + x3 ∧ (1024 * x2) + x3 < 9216) ∧ (i3 x4) ∧ V miX12_waysOf (d + 1) 106 [(0, .ref 53), (1, I_ x1), (2, I_ x2), (3, I_ (x3 + 1))] [] n (W0 dy) (up2 g 94 (((1024 * x2) + x3).toNat) x4) 0 0 P) ∧ (((g 88 x2.toNat) = 0) → (0 ≤ (1024 * (x2 + 1)) + x3 ∧ (1024 * (x2 + 1)) + x3 < 9216) ∧ ∀ y12 : Int, y12 = x4 + (g 94 (((1024 * (x2 + 1)) + x3).toNat)) → (0 ≤ (1024 * x2) + x3 ∧ (1024 * x2) + x3 < 9216) ∧ (i3 y12) ∧ V miX12_waysOf (d + 1) 106 [(0, .ref 53), (1, I_ x1), (2, I_ x2), (3, I_ (x3 + 1))] [] n (W0 dy) (up2 g 94 (((1024 * x2) + x3).toNat) y12) 0 0 P)) ∧ ((0 < x5) → (0 ≤ x5 ∧ x5 < 1024) ∧ (0 ≤ x2 ∧ x2 < 8) ∧ (((g 95 x5.toNat) ≠ (g 88 x2.toNat)) → V miX12_waysOf (d + 1) 132 [(0, .ref 53), (1, I_ x1), (2, I_ x2), (3, I_ x3), (4, I_ x4), (5, I_ (and3 (x5 - 1) x3))] [] n (W0 dy) g 0 0 P) ∧ (((g 95 x5.toNat) = (g 88 x2.toNat)) → (0 ≤ (1024 * (x2 + 1)) + (xor3 x3 x5) ∧ (1024 * (x2 + 1)) + (xor3 x3 x5) < 9216) ∧ (((g 94 (((1024 * (x2 + 1)) + (xor3 x3 x5)).toNat)) = 0) → V miX12_waysOf (d + 1) 132 [(0, .ref 53), (1, I_ x1), (2, I_ x2), (3, I_ x3), (4, I_ x4), (5, I_ (and3 (x5 - 1) x3))] [] n (W0 dy) g 0 0 P) ∧ (((g 94 (((1024 * (x2 + 1)) + (xor3 x3 x5)).toNat)) ≠ 0) → Runs miX12_isFirstOf d [.ref 53, I_ x5, I_ x3] n (W0 dy) g (fun v n' S' g' => V miX12_waysOf (d + 1) 181 [(0, .ref 53), (1, I_ x1), (2, I_ x2), (3, I_ x3), (4, I_ x4), (5, I_ x5)] (v.toList ++ []) n' S' g' 0 0 P))))) : V miX12_waysOf (d + 1) 132 [(0, .ref 53), (1, I_ x1), (2, I_ x2), (3, I_ x3), (4, I_ x4), (5, I_ x5)] [] n (W0 dy) g 0 0 P := by
  refine v_iload 82 5 rfl rfl ?_
  have c1 := h.1
  have h := h.2
  refine v_if_le 83 rfl (tgt := 220) rfl c1 (fun q2 => ?_) (fun q2 => ?_)
  · have h := h.1 q2
    refine v_aload_n 135 0 rfl rfl rfl ?_
    refine v_gK 136 rfl fl12_115_11.r (al 53 rfl hn) (wk53 dy) (by decide) rfl (r := 88) (wc53_45 dy) ?_
    refine v_iload_n 137 2 rfl rfl rfl ?_
    have c3 := h.1
    have h := h.2
    refine v_la (N := 8) 138 rfl (al 88 rfl hn) (wk88 dy) (wn88 dy) (by decide) c3 (y := g 88 x2.toNat) rfl ?_
    refine v_rng fun w4 => ?_
    have p5 : i6 (g 88 x2.toNat) := rL w4 (q := x2.toNat) (al 88 rfl hn) (wk88 dy) rfl rfl
    refine v_lconst (v := 0) 139 rfl (by decide) ?_
    refine v_lif_ne 140 rfl rfl (tgt := 250) rfl p5 (by decide) (fun q6 => ?_) (fun q6 => ?_)
    · have h := h.1 q6
      refine v_aload_n 155 0 rfl rfl rfl ?_
      refine v_gK 156 rfl fl12_133_11.r (al 53 rfl hn) (wk53 dy) (by decide) rfl (r := 94) (wc53_52 dy) ?_
      refine v_sipush 157 rfl (by decide) ?_
      refine v_iload_n 158 2 rfl rfl rfl ?_
      refine v_imul 159 rfl ?_
      refine v_iload_n 160 3 rfl rfl rfl ?_
      refine v_iadd 161 rfl ?_
      refine v_iload 162 4 rfl rfl ?_
      have c7 := h.1
      have h := h.2
      have c8 := h.1
      have h := h.2
      refine v_iast (N := 9216) 163 rfl (al 94 rfl hn) (wk94 dy) (wn94 dy) (by decide) c7 c8 ?_
      refine v_iinc 164 3 [1, 2, 3, 0, 4, 5] rfl rfl (by decide) rfl ?_
      refine v_goto 165 rfl (tgt := 106) rfl ?_
      refine v_loc [0, 1, 2, 3] rfl ?_
      exact h
    · have h := h.2 q6
      refine v_iload 142 4 rfl rfl ?_
      refine v_aload_n 143 0 rfl rfl rfl ?_
      refine v_gK 144 rfl fl12_133_11.r (al 53 rfl hn) (wk53 dy) (by decide) rfl (r := 94) (wc53_52 dy) ?_
      refine v_sipush 145 rfl (by decide) ?_
      refine v_iload_n 146 2 rfl rfl rfl ?_
      refine v_iconst 147 rfl ?_
      refine v_iadd 148 rfl ?_
      refine v_imul 149 rfl ?_
      refine v_iload_n 150 3 rfl rfl rfl ?_
      refine v_iadd 151 rfl ?_
      have c9 := h.1
      have h := h.2
      refine v_ia (N := 9216) 152 rfl (al 94 rfl hn) (wk94 dy) (wn94 dy) (by decide) c9 (y := g 94 (((1024 * (x2 + 1)) + x3).toNat)) rfl ?_
      refine v_rng fun w10 => ?_
      have p11 : i3 (g 94 (((1024 * (x2 + 1)) + x3).toNat)) := rI w10 (q := (((1024 * (x2 + 1)) + x3).toNat)) (al 94 rfl hn) (wk94 dy) rfl rfl
      refine v_iadd 153 rfl ?_
      refine v_nmI (fun y12 ey12 => ?_)
      have h := h y12 ey12
      refine v_istore 154 [1, 2, 3, 4, 0, 5] rfl (by decide) rfl ?_
      refine v_aload_n 155 0 rfl rfl rfl ?_
      refine v_gK 156 rfl fl12_133_11.r (al 53 rfl hn) (wk53 dy) (by decide) rfl (r := 94) (wc53_52 dy) ?_
      refine v_sipush 157 rfl (by decide) ?_
      refine v_iload_n 158 2 rfl rfl rfl ?_
      refine v_imul 159 rfl ?_
      refine v_iload_n 160 3 rfl rfl rfl ?_
      refine v_iadd 161 rfl ?_
      refine v_iload 162 4 rfl rfl ?_
      have c13 := h.1
      have h := h.2
      have c14 := h.1
      have h := h.2
      refine v_iast (N := 9216) 163 rfl (al 94 rfl hn) (wk94 dy) (wn94 dy) (by decide) c13 c14 ?_
      refine v_iinc 164 3 [1, 2, 3, 0, 4, 5] rfl rfl (by decide) rfl ?_
      refine v_goto 165 rfl (tgt := 106) rfl ?_
      refine v_loc [0, 1, 2, 3] rfl ?_
      exact h
  · have h := h.2 q2
    refine v_aload_n 84 0 rfl rfl rfl ?_
    refine v_gK 85 rfl fl12_136_11.r (al 53 rfl hn) (wk53 dy) (by decide) rfl (r := 95) (wc53_53 dy) ?_
    refine v_iload 86 5 rfl rfl ?_
    have c15 := h.1
    have h := h.2
    refine v_la (N := 1024) 87 rfl (al 95 rfl hn) (wk95 dy) (wn95 dy) (by decide) c15 (y := g 95 x5.toNat) rfl ?_
    refine v_rng fun w16 => ?_
    have p17 : i6 (g 95 x5.toNat) := rL w16 (q := x5.toNat) (al 95 rfl hn) (wk95 dy) rfl rfl
    refine v_aload_n 88 0 rfl rfl rfl ?_
    refine v_gK 89 rfl fl12_115_11.r (al 53 rfl hn) (wk53 dy) (by decide) rfl (r := 88) (wc53_45 dy) ?_
    refine v_iload_n 90 2 rfl rfl rfl ?_
    have c18 := h.1
    have h := h.2
    refine v_la (N := 8) 91 rfl (al 88 rfl hn) (wk88 dy) (wn88 dy) (by decide) c18 (y := g 88 x2.toNat) rfl ?_
    refine v_rng fun w19 => ?_
    have p20 : i6 (g 88 x2.toNat) := rL w19 (q := x2.toNat) (al 88 rfl hn) (wk88 dy) rfl rfl
    refine v_lif_ne 92 rfl rfl (tgt := 209) rfl p17 p20 (fun q21 => ?_) (fun q21 => ?_)
    · have h := h.1 q21
      refine v_iload 128 5 rfl rfl ?_
      refine v_iconst 129 rfl ?_
      refine v_isub 130 rfl ?_
      refine v_iload_n 131 3 rfl rfl rfl ?_
      refine v_iand 132 rfl ?_
      refine v_istore 133 [1, 2, 3, 4, 5, 0] rfl (by decide) rfl ?_
      refine v_goto 134 rfl (tgt := 132) rfl ?_
      exact h
    · have h := h.2 q21
      refine v_aload_n 94 0 rfl rfl rfl ?_
      refine v_gK 95 rfl fl12_133_11.r (al 53 rfl hn) (wk53 dy) (by decide) rfl (r := 94) (wc53_52 dy) ?_
      refine v_sipush 96 rfl (by decide) ?_
      refine v_iload_n 97 2 rfl rfl rfl ?_
      refine v_iconst 98 rfl ?_
      refine v_iadd 99 rfl ?_
      refine v_imul 100 rfl ?_
      refine v_iload_n 101 3 rfl rfl rfl ?_
      refine v_iload 102 5 rfl rfl ?_
      refine v_ixor 103 rfl ?_
      refine v_iadd 104 rfl ?_
      have c22 := h.1
      have h := h.2
      refine v_ia (N := 9216) 105 rfl (al 94 rfl hn) (wk94 dy) (wn94 dy) (by decide) c22 (y := g 94 (((1024 * (x2 + 1)) + (xor3 x3 x5)).toNat)) rfl ?_
      refine v_rng fun w23 => ?_
      have p24 : i3 (g 94 (((1024 * (x2 + 1)) + (xor3 x3 x5)).toNat)) := rI w23 (q := (((1024 * (x2 + 1)) + (xor3 x3 x5)).toNat)) (al 94 rfl hn) (wk94 dy) rfl rfl
      refine v_if_eq 106 rfl (tgt := 209) rfl p24 (fun q25 => ?_) (fun q25 => ?_)
      · have h := h.1 q25
        refine v_iload 128 5 rfl rfl ?_
        refine v_iconst 129 rfl ?_
        refine v_isub 130 rfl ?_
        refine v_iload_n 131 3 rfl rfl rfl ?_
        refine v_iand 132 rfl ?_
        refine v_istore 133 [1, 2, 3, 4, 5, 0] rfl (by decide) rfl ?_
        refine v_goto 134 rfl (tgt := 132) rfl ?_
        exact h
      · have h := h.2 q25
        refine v_aload_n 107 0 rfl rfl rfl ?_
        refine v_iload 108 5 rfl rfl ?_
        refine v_iload_n 109 3 rfl rfl rfl ?_
        refine v_callV (st := []) [I_ x5, I_ x3] 110 rfl lv12_357_waysOf_11 (al 53 rfl hn) (wk53 dy) (by decide) rfl (Nat.le_refl _) (Nat.le_refl _) ?_
        exact h
set_option maxHeartbeats 8000000 in
set_option maxRecDepth 4000 in
theorem bX12_waysOf_181 {d n : Nat} {dy : Nat → Shp} {g : Hp} {P : Pst} {x1 : Int} {x2 : Int} {x3 : Int} {x4 : Int} {x5 : Int} {xs0 : Int} (hn : 100 ≤ n) (h : (i3 xs0) ∧ ((xs0 ≠ 0) → (0 ≤ (1024 * (x2 + 1)) + (xor3 x3 x5) ∧ (1024 * (x2 + 1)) + (xor3 x3 x5) < 9216) ∧ ∀ y6 : Int, y6 = x4 + (g 94 (((1024 * (x2 + 1)) + (xor3 x3 x5)).toNat)) → V miX12_waysOf (d + 1) 132 [(0, .ref 53), (1, I_ x1), (2, I_ x2), (3, I_ x3), (4, I_ y6), (5, I_ (and3 (x5 - 1) x3))] [] n (W0 dy) g 0 0 P) ∧ ((xs0 = 0) → V miX12_waysOf (d + 1) 132 [(0, .ref 53), (1, I_ x1), (2, I_ x2), (3, I_ x3), (4, I_ x4), (5, I_ (and3 (x5 - 1) x3))] [] n (W0 dy) g 0 0 P)) : V miX12_waysOf (d + 1) 181 [(0, .ref 53), (1, I_ x1), (2, I_ x2), (3, I_ x3), (4, I_ x4), (5, I_ x5)] [I_ xs0] n (W0 dy) g 0 0 P := by
  have c1 := h.1
  have h := h.2
  refine v_if_ne 111 rfl (tgt := 187) rfl c1 (fun q2 => ?_) (fun q2 => ?_)
  · have h := h.1 q2
    refine v_iload 113 4 rfl rfl ?_
    refine v_aload_n 114 0 rfl rfl rfl ?_
    refine v_gK 115 rfl fl12_133_11.r (al 53 rfl hn) (wk53 dy) (by decide) rfl (r := 94) (wc53_52 dy) ?_
    refine v_sipush 116 rfl (by decide) ?_
    refine v_iload_n 117 2 rfl rfl rfl ?_
    refine v_iconst 118 rfl ?_
    refine v_iadd 119 rfl ?_
    refine v_imul 120 rfl ?_
    refine v_iload_n 121 3 rfl rfl rfl ?_
    refine v_iload 122 5 rfl rfl ?_
    refine v_ixor 123 rfl ?_
    refine v_iadd 124 rfl ?_
    have c3 := h.1
    have h := h.2
    refine v_ia (N := 9216) 125 rfl (al 94 rfl hn) (wk94 dy) (wn94 dy) (by decide) c3 (y := g 94 (((1024 * (x2 + 1)) + (xor3 x3 x5)).toNat)) rfl ?_
    refine v_rng fun w4 => ?_
    have p5 : i3 (g 94 (((1024 * (x2 + 1)) + (xor3 x3 x5)).toNat)) := rI w4 (q := (((1024 * (x2 + 1)) + (xor3 x3 x5)).toNat)) (al 94 rfl hn) (wk94 dy) rfl rfl
    refine v_iadd 126 rfl ?_
    refine v_nmI (fun y6 ey6 => ?_)
    have h := h y6 ey6
    refine v_istore 127 [1, 2, 3, 4, 0, 5] rfl (by decide) rfl ?_
    refine v_iload 128 5 rfl rfl ?_
    refine v_iconst 129 rfl ?_
    refine v_isub 130 rfl ?_
    refine v_iload_n 131 3 rfl rfl rfl ?_
    refine v_iand 132 rfl ?_
    refine v_istore 133 [1, 2, 3, 4, 5, 0] rfl (by decide) rfl ?_
    refine v_goto 134 rfl (tgt := 132) rfl ?_
    exact h
  · have h := h.2 q2
    refine v_goto 112 rfl (tgt := 209) rfl ?_
    refine v_iload 128 5 rfl rfl ?_
    refine v_iconst 129 rfl ?_
    refine v_isub 130 rfl ?_
    refine v_iload_n 131 3 rfl rfl rfl ?_
    refine v_iand 132 rfl ?_
    refine v_istore 133 [1, 2, 3, 4, 5, 0] rfl (by decide) rfl ?_
    refine v_goto 134 rfl (tgt := 132) rfl ?_
    exact h
theorem wX12_waysOf {d n : Nat} {dy : Nat → Shp} {g : Hp} {P : Pst} {x1 : Int} (hn : 100 ≤ n) (h : V miX12_waysOf (d + 1) 2 [(0, .ref 53), (1, I_ x1), (2, I_ 0)] [] n (W0 dy) g 0 0 P) : Runs miX12_waysOf (d + 1) [.ref 53, I_ x1] n (W0 dy) g P := Runs.of rfl rfl deX12_waysOf (Nat.le_of_ble_eq_true rfl) (bX12_waysOf_0 hn h)
theorem lv12_360_ways_11 : LkV miX12_ways miX12_parted 360 4 11 := ⟨⟨⟨tbG_in (List.mem_append_right _ (List.mem_of_getElem? (i := 1601) (by decide +kernel))) rfl, tbG_in (List.mem_append_right _ (List.mem_of_getElem? (i := 9) (by decide +kernel))) rfl, tbG_in (List.mem_append_right _ (List.mem_of_getElem? (i := 1598) (by decide +kernel))) rfl⟩, ⟨by decide +kernel, by decide +kernel, by decide +kernel⟩, by decide⟩, tbG_in (List.mem_append_right _ (List.mem_of_getElem? (i := 1600) (by decide +kernel))) rfl, RX12, TX12, 58, rfl, tbG_in (List.mem_append_left _ (List.mem_of_getElem? (i := 87) (by decide +kernel))) rfl⟩
theorem lv12_364_ways_11 : LkV miX12_ways miX12_waysOf 364 1 11 := ⟨⟨⟨tbG_in (List.mem_append_right _ (List.mem_of_getElem? (i := 1614) (by decide +kernel))) rfl, tbG_in (List.mem_append_right _ (List.mem_of_getElem? (i := 9) (by decide +kernel))) rfl, tbG_in (List.mem_append_right _ (List.mem_of_getElem? (i := 1611) (by decide +kernel))) rfl⟩, ⟨by decide +kernel, by decide +kernel, by decide +kernel⟩, by decide⟩, tbG_in (List.mem_append_right _ (List.mem_of_getElem? (i := 1613) (by decide +kernel))) rfl, RX12, TX12, 58, rfl, tbG_in (List.mem_append_left _ (List.mem_of_getElem? (i := 90) (by decide +kernel))) rfl⟩
set_option maxHeartbeats 8000000 in
set_option maxRecDepth 4000 in
theorem bX12_ways_0 {d n : Nat} {dy : Nat → Shp} {g : Hp} {P : Pst} {x1 : Int} {x2 : Int} (hn : 100 ≤ n) (h : Runs miX12_parted d [.ref 53, I_ x1, I_ x2, I_ 0, I_ 0] n (W0 dy) (up2 g 53 1 0) (fun v n' S' g' => V miX12_ways (d + 1) 14 [(0, .ref 53), (1, I_ x1), (2, I_ x2)] (v.toList ++ [.ref 53]) n' S' g' 0 0 P)) : V miX12_ways (d + 1) 0 [(0, .ref 53), (1, I_ x1), (2, I_ x2)] [] n (W0 dy) g 0 0 P := by
  refine v_aload_n 0 0 rfl rfl rfl ?_
  refine v_iconst 1 rfl ?_
  refine v_putI 2 rfl fl12_148_11 (al 53 rfl hn) (wk53 dy) (by decide) rfl (wc53_1 dy) (by decide) ?_
  refine v_aload_n 3 0 rfl rfl rfl ?_
  refine v_aload_n 4 0 rfl rfl rfl ?_
  refine v_iload_n 5 1 rfl rfl rfl ?_
  refine v_iload_n 6 2 rfl rfl rfl ?_
  refine v_iconst 7 rfl ?_
  refine v_iconst 8 rfl ?_
  refine v_callV (st := [.ref 53]) [I_ x1, I_ x2, I_ 0, I_ 0] 9 rfl lv12_360_ways_11 (al 53 rfl hn) (wk53 dy) (by decide) rfl (Nat.le_refl _) (Nat.le_refl _) ?_
  exact h
set_option maxHeartbeats 8000000 in
set_option maxRecDepth 4000 in
theorem bX12_ways_14 {d n : Nat} {dy : Nat → Shp} {g : Hp} {P : Pst} {x1 : Int} {x2 : Int} {xs1 : Int} (hn : 100 ≤ n) (h : (i3 xs1) ∧ ((xs1 ≤ 0) → Runs miX12_waysOf d [.ref 53, I_ ((shl3 1 (g 53 42)) - 1)] n (W0 dy) (up2 g 53 0 xs1) (fun v n' S' g' => V miX12_ways (d + 1) 40 [(0, .ref 53), (1, I_ x1), (2, I_ x2)] (v.toList ++ []) n' S' g' 0 0 P)) ∧ ((0 < xs1) → V miX12_ways (d + 1) 40 [(0, .ref 53), (1, I_ x1), (2, I_ x2)] [I_ ((-1))] n (W0 dy) (up2 g 53 0 xs1) 0 0 P)) : V miX12_ways (d + 1) 14 [(0, .ref 53), (1, I_ x1), (2, I_ x2)] [I_ xs1, .ref 53] n (W0 dy) g 0 0 P := by
  have c1 := h.1
  have h := h.2
  refine v_putI 10 rfl fl12_152_11 (al 53 rfl hn) (wk53 dy) (by decide) rfl (wc53_0 dy) c1 ?_
  refine v_aload_n 11 0 rfl rfl rfl ?_
  refine v_gI 12 rfl fl12_152_11.r (al 53 rfl hn) (wk53 dy) (by decide) rfl (wc53_0 dy) (x := xs1) rfl ?_
  refine v_rng fun w2 => ?_
  have p3 : i3 (xs1) := rI w2 (q := 0) (al 53 rfl hn) (wk53 dy) rfl rfl
  refine v_if_le 13 rfl (tgt := 28) rfl p3 (fun q4 => ?_) (fun q4 => ?_)
  · have h := h.1 q4
    refine v_aload_n 16 0 rfl rfl rfl ?_
    refine v_iconst 17 rfl ?_
    refine v_aload_n 18 0 rfl rfl rfl ?_
    refine v_gI 19 rfl fl12_351_11.r (al 53 rfl hn) (wk53 dy) (by decide) rfl (wc53_42 dy) (x := g 53 42) rfl ?_
    refine v_rng fun w5 => ?_
    have p6 : i3 (g 53 42) := rI w5 (q := 42) (al 53 rfl hn) (wk53 dy) rfl rfl
    refine v_ishl 20 rfl ?_
    refine v_iconst 21 rfl ?_
    refine v_isub 22 rfl ?_
    refine v_callV (st := []) [I_ ((shl3 1 (g 53 42)) - 1)] 23 rfl lv12_364_ways_11 (al 53 rfl hn) (wk53 dy) (by decide) rfl (Nat.le_refl _) (Nat.le_refl _) ?_
    exact h
  · have h := h.2 q4
    refine v_iconst 14 rfl ?_
    refine v_goto 15 rfl (tgt := 40) rfl ?_
    exact h
set_option maxHeartbeats 8000000 in
set_option maxRecDepth 4000 in
theorem bX12_ways_40 {d n : Nat} {dy : Nat → Shp} {g : Hp} {P : Pst} {x1 : Int} {x2 : Int} {xs0 : Int} (hn : 100 ≤ n) (h : P (some (I_ xs0)) n (W0 dy) g) : V miX12_ways (d + 1) 40 [(0, .ref 53), (1, I_ x1), (2, I_ x2)] [I_ xs0] n (W0 dy) g 0 0 P := by
  exact v_ret (v := some (I_ xs0)) 24 rfl (Nat.zero_le _) (Nat.zero_le _) trivial rfl h
theorem wX12_ways {d n : Nat} {dy : Nat → Shp} {g : Hp} {P : Pst} {x1 : Int} {x2 : Int} (hn : 100 ≤ n) (h : Runs miX12_parted d [.ref 53, I_ x1, I_ x2, I_ 0, I_ 0] n (W0 dy) (up2 g 53 1 0) (fun v n' S' g' => V miX12_ways (d + 1) 14 [(0, .ref 53), (1, I_ x1), (2, I_ x2)] (v.toList ++ [.ref 53]) n' S' g' 0 0 P)) : Runs miX12_ways (d + 1) [.ref 53, I_ x1, I_ x2] n (W0 dy) g P := Runs.of rfl rfl deX12_ways (Nat.le_of_ble_eq_true rfl) (bX12_ways_0 hn h)
theorem lv12_360_fill_11 : LkV miX12_fill miX12_parted 360 4 11 := ⟨⟨⟨tbG_in (List.mem_append_right _ (List.mem_of_getElem? (i := 1601) (by decide +kernel))) rfl, tbG_in (List.mem_append_right _ (List.mem_of_getElem? (i := 9) (by decide +kernel))) rfl, tbG_in (List.mem_append_right _ (List.mem_of_getElem? (i := 1598) (by decide +kernel))) rfl⟩, ⟨by decide +kernel, by decide +kernel, by decide +kernel⟩, by decide⟩, tbG_in (List.mem_append_right _ (List.mem_of_getElem? (i := 1600) (by decide +kernel))) rfl, RX12, TX12, 58, rfl, tbG_in (List.mem_append_left _ (List.mem_of_getElem? (i := 87) (by decide +kernel))) rfl⟩
theorem lv12_364_fill_11 : LkV miX12_fill miX12_waysOf 364 1 11 := ⟨⟨⟨tbG_in (List.mem_append_right _ (List.mem_of_getElem? (i := 1614) (by decide +kernel))) rfl, tbG_in (List.mem_append_right _ (List.mem_of_getElem? (i := 9) (by decide +kernel))) rfl, tbG_in (List.mem_append_right _ (List.mem_of_getElem? (i := 1611) (by decide +kernel))) rfl⟩, ⟨by decide +kernel, by decide +kernel, by decide +kernel⟩, by decide⟩, tbG_in (List.mem_append_right _ (List.mem_of_getElem? (i := 1613) (by decide +kernel))) rfl, RX12, TX12, 58, rfl, tbG_in (List.mem_append_left _ (List.mem_of_getElem? (i := 90) (by decide +kernel))) rfl⟩
theorem lv12_174_fill_11 : LkV miX12_fill miX12_refuse 174 1 11 := ⟨⟨⟨tbG_in (List.mem_append_right _ (List.mem_of_getElem? (i := 1351) (by decide +kernel))) rfl, tbG_in (List.mem_append_right _ (List.mem_of_getElem? (i := 9) (by decide +kernel))) rfl, tbG_in (List.mem_append_right _ (List.mem_of_getElem? (i := 1348) (by decide +kernel))) rfl⟩, ⟨by decide +kernel, by decide +kernel, by decide +kernel⟩, by decide⟩, tbG_in (List.mem_append_right _ (List.mem_of_getElem? (i := 1350) (by decide +kernel))) rfl, RX12, TX12, 58, rfl, tbG_in (List.mem_append_left _ (List.mem_of_getElem? (i := 50) (by decide +kernel))) rfl⟩
set_option maxHeartbeats 8000000 in
set_option maxRecDepth 4000 in
theorem bX12_fill_0 {d n : Nat} {dy : Nat → Shp} {g : Hp} {P : Pst} {x1 : Int} {x2 : Int} {x3 : Int} (hn : 100 ≤ n) (h : Runs miX12_parted d [.ref 53, I_ x1, I_ x2, I_ x3, I_ 1] n (W0 dy) (up2 g 53 1 0) (fun v n' S' g' => V miX12_fill (d + 1) 14 [(0, .ref 53), (1, I_ x1), (2, I_ x2), (3, I_ x3)] (v.toList ++ [.ref 53]) n' S' g' 0 0 P)) : V miX12_fill (d + 1) 0 [(0, .ref 53), (1, I_ x1), (2, I_ x2), (3, I_ x3)] [] n (W0 dy) g 0 0 P := by
  refine v_aload_n 0 0 rfl rfl rfl ?_
  refine v_iconst 1 rfl ?_
  refine v_putI 2 rfl fl12_148_11 (al 53 rfl hn) (wk53 dy) (by decide) rfl (wc53_1 dy) (by decide) ?_
  refine v_aload_n 3 0 rfl rfl rfl ?_
  refine v_aload_n 4 0 rfl rfl rfl ?_
  refine v_iload_n 5 1 rfl rfl rfl ?_
  refine v_iload_n 6 2 rfl rfl rfl ?_
  refine v_iload_n 7 3 rfl rfl rfl ?_
  refine v_iconst 8 rfl ?_
  refine v_callV (st := [.ref 53]) [I_ x1, I_ x2, I_ x3, I_ 1] 9 rfl lv12_360_fill_11 (al 53 rfl hn) (wk53 dy) (by decide) rfl (Nat.le_refl _) (Nat.le_refl _) ?_
  exact h
set_option maxHeartbeats 8000000 in
set_option maxRecDepth 4000 in
theorem bX12_fill_14 {d n : Nat} {dy : Nat → Shp} {g : Hp} {P : Pst} {x1 : Int} {x2 : Int} {x3 : Int} {xs1 : Int} (hn : 100 ≤ n) (h : (i3 xs1) ∧ ((xs1 ≤ 0) → Runs miX12_waysOf d [.ref 53, I_ ((shl3 1 (g 53 42)) - 1)] n (W0 dy) (up2 g 53 0 xs1) (fun v n' S' g' => V miX12_fill (d + 1) 42 [(0, .ref 53), (1, I_ x1), (2, I_ x2), (3, I_ x3), (4, I_ ((shl3 1 (g 53 42)) - 1))] (v.toList ++ []) n' S' g' 0 0 P)) ∧ ((0 < xs1) → P (some (I_ ((-1)))) n (W0 dy) (up2 g 53 0 xs1))) : V miX12_fill (d + 1) 14 [(0, .ref 53), (1, I_ x1), (2, I_ x2), (3, I_ x3)] [I_ xs1, .ref 53] n (W0 dy) g 0 0 P := by
  have c1 := h.1
  have h := h.2
  refine v_putI 10 rfl fl12_152_11 (al 53 rfl hn) (wk53 dy) (by decide) rfl (wc53_0 dy) c1 ?_
  refine v_aload_n 11 0 rfl rfl rfl ?_
  refine v_gI 12 rfl fl12_152_11.r (al 53 rfl hn) (wk53 dy) (by decide) rfl (wc53_0 dy) (x := xs1) rfl ?_
  refine v_rng fun w2 => ?_
  have p3 : i3 (xs1) := rI w2 (q := 0) (al 53 rfl hn) (wk53 dy) rfl rfl
  refine v_if_le 13 rfl (tgt := 26) rfl p3 (fun q4 => ?_) (fun q4 => ?_)
  · have h := h.1 q4
    refine v_iconst 16 rfl ?_
    refine v_aload_n 17 0 rfl rfl rfl ?_
    refine v_gI 18 rfl fl12_351_11.r (al 53 rfl hn) (wk53 dy) (by decide) rfl (wc53_42 dy) (x := g 53 42) rfl ?_
    refine v_rng fun w5 => ?_
    have p6 : i3 (g 53 42) := rI w5 (q := 42) (al 53 rfl hn) (wk53 dy) rfl rfl
    refine v_ishl 19 rfl ?_
    refine v_iconst 20 rfl ?_
    refine v_isub 21 rfl ?_
    refine v_istore 22 [1, 2, 3, 4, 0] rfl (by decide) rfl ?_
    refine v_aload_n 23 0 rfl rfl rfl ?_
    refine v_iload 24 4 rfl rfl ?_
    refine v_callV (st := []) [I_ ((shl3 1 (g 53 42)) - 1)] 25 rfl lv12_364_fill_11 (al 53 rfl hn) (wk53 dy) (by decide) rfl (Nat.le_refl _) (Nat.le_refl _) ?_
    exact h
  · have h := h.2 q4
    refine v_iconst 14 rfl ?_
    exact v_ret (v := some (I_ ((-1)))) 15 rfl (Nat.zero_le _) (Nat.zero_le _) trivial rfl h
set_option maxHeartbeats 8000000 in
set_option maxRecDepth 4000 in
theorem bX12_fill_42 {d n : Nat} {dy : Nat → Shp} {g : Hp} {P : Pst} {x1 : Int} {x2 : Int} {x3 : Int} {x4 : Int} {xs0 : Int} (hn : 100 ≤ n) (h : (i3 xs0) ∧ ((xs0 ≠ 0) → V miX12_fill (d + 1) 58 [(0, .ref 53), (1, I_ x1), (2, I_ x2), (3, I_ x3), (4, I_ x4), (5, I_ ((-1))), (6, I_ 0)] [] n (W0 dy) g 0 0 P) ∧ ((xs0 = 0) → Runs miX12_refuse d [.ref 53, I_ 11] n (W0 dy) g (fun v n' S' g' => V miX12_fill (d + 1) 51 [(0, .ref 53), (1, I_ x1), (2, I_ x2), (3, I_ x3), (4, I_ x4)] (v.toList ++ []) n' S' g' 0 0 P))) : V miX12_fill (d + 1) 42 [(0, .ref 53), (1, I_ x1), (2, I_ x2), (3, I_ x3), (4, I_ x4)] [I_ xs0] n (W0 dy) g 0 0 P := by
  have c1 := h.1
  have h := h.2
  refine v_if_ne 26 rfl (tgt := 52) rfl c1 (fun q2 => ?_) (fun q2 => ?_)
  · have h := h.1 q2
    refine v_iconst 31 rfl ?_
    refine v_istore 32 [1, 2, 3, 4, 5, 0] rfl (by decide) rfl ?_
    refine v_iconst 33 rfl ?_
    refine v_istore 34 [1, 2, 3, 4, 5, 6, 0] rfl (by decide) rfl ?_
    exact h
  · have h := h.2 q2
    refine v_aload_n 27 0 rfl rfl rfl ?_
    refine v_bipush 28 rfl (by decide) ?_
    refine v_callV (st := []) [I_ 11] 29 rfl lv12_174_fill_11 (al 53 rfl hn) (wk53 dy) (by decide) rfl (Nat.le_refl _) (Nat.le_refl _) ?_
    exact h
set_option maxHeartbeats 8000000 in
set_option maxRecDepth 4000 in
theorem bX12_fill_51 {d n : Nat} {dy : Nat → Shp} {g : Hp} {P : Pst} {x1 : Int} {x2 : Int} {x3 : Int} {x4 : Int} {xs0 : Int} (hn : 100 ≤ n) (h : P (some (I_ xs0)) n (W0 dy) g) : V miX12_fill (d + 1) 51 [(0, .ref 53), (1, I_ x1), (2, I_ x2), (3, I_ x3), (4, I_ x4)] [I_ xs0] n (W0 dy) g 0 0 P := by
  exact v_ret (v := some (I_ xs0)) 30 rfl (Nat.zero_le _) (Nat.zero_le _) trivial rfl h
set_option maxHeartbeats 8000000 in
set_option maxRecDepth 4000 in
theorem bX12_fill_58 {d n : Nat} {dy : Nat → Shp} {g : Hp} {P : Pst} {x1 : Int} {x2 : Int} {x3 : Int} {x4 : Int} {x5 : Int} {x6 : Int} (hn : 100 ≤ n) (h : (i3 x6) ∧ (i3 x3) ∧ ((x3 < x6) → P (some (I_ x5)) n (W0 dy) g) ∧ ((x6 ≤ x3) → V miX12_fill (d + 1) 79 [(0, .ref 53), (1, I_ x1), (2, I_ x2), (3, I_ x3), (4, I_ (xor3 x4 (shl3 1 x6))), (5, I_ ((-1))), (6, I_ x6), (7, I_ 0)] [] n (W0 dy) g 0 0 P)) : V miX12_fill (d + 1) 58 [(0, .ref 53), (1, I_ x1), (2, I_ x2), (3, I_ x3), (4, I_ x4), (5, I_ x5), (6, I_ x6)] [] n (W0 dy) g 0 0 P := by
  refine v_iload 35 6 rfl rfl ?_
  refine v_iload_n 36 3 rfl rfl rfl ?_
  have c1 := h.1
  have h := h.2
  have c2 := h.1
  have h := h.2
  refine v_icmp_gt 37 rfl (tgt := 176) rfl c1 c2 (fun q3 => ?_) (fun q3 => ?_)
  · have h := h.1 q3
    refine v_iload 98 5 rfl rfl ?_
    exact v_ret (v := some (I_ x5)) 99 rfl (Nat.zero_le _) (Nat.zero_le _) trivial rfl h
  · have h := h.2 q3
    refine v_iload 38 4 rfl rfl ?_
    refine v_iconst 39 rfl ?_
    refine v_iload 40 6 rfl rfl ?_
    refine v_ishl 41 rfl ?_
    refine v_ixor 42 rfl ?_
    refine v_istore 43 [1, 2, 3, 4, 0, 5, 6] rfl (by decide) rfl ?_
    refine v_iconst 44 rfl ?_
    refine v_istore 45 [1, 2, 3, 4, 5, 0, 6] rfl (by decide) rfl ?_
    refine v_iconst 46 rfl ?_
    refine v_istore 47 [1, 2, 3, 4, 5, 6, 7, 0] rfl (by decide) rfl ?_
    exact h
set_option maxHeartbeats 8000000 in
set_option maxRecDepth 4000 in
theorem bX12_fill_79 {d n : Nat} {dy : Nat → Shp} {g : Hp} {P : Pst} {x1 : Int} {x2 : Int} {x3 : Int} {x4 : Int} {x5 : Int} {x6 : Int} {x7 : Int} (hn : 100 ≤ n) (h : (i3 x7) ∧ (((g 53 41) ≤ x7) → V miX12_fill (d + 1) 58 [(0, .ref 53), (1, I_ x1), (2, I_ x2), (3, I_ x3), (4, I_ x4), (5, I_ x5), (6, I_ (x6 + 1))] [] n (W0 dy) g 0 0 P) ∧ ((x7 < (g 53 41)) → (i3 x5) ∧ ((0 ≤ x5) → V miX12_fill (d + 1) 58 [(0, .ref 53), (1, I_ x1), (2, I_ x2), (3, I_ x3), (4, I_ x4), (5, I_ x5), (6, I_ (x6 + 1))] [] n (W0 dy) g 0 0 P) ∧ ((x5 < 0) → (0 ≤ x7 ∧ x7 < 8) ∧ (0 ≤ x6 ∧ x6 < 10) ∧ (((g 89 x6.toNat) ≤ (g 88 x7.toNat)) → ∀ y18 : Int, y18 = (g 88 x7.toNat) - (g 89 x6.toNat) → (i6 y18) ∧ Runs miX12_waysOf d [.ref 53, I_ x4] n (W0 dy) (up2 g 88 x7.toNat y18) (fun v n' S' g' => V miX12_fill (d + 1) 137 [(0, .ref 53), (1, I_ x1), (2, I_ x2), (3, I_ x3), (4, I_ x4), (5, I_ x5), (6, I_ x6), (7, I_ x7)] (v.toList ++ []) n' S' g' 0 0 P)) ∧ (((g 88 x7.toNat) < (g 89 x6.toNat)) → V miX12_fill (d + 1) 79 [(0, .ref 53), (1, I_ x1), (2, I_ x2), (3, I_ x3), (4, I_ x4), (5, I_ x5), (6, I_ x6), (7, I_ (x7 + 1))] [] n (W0 dy) g 0 0 P)))) : V miX12_fill (d + 1) 79 [(0, .ref 53), (1, I_ x1), (2, I_ x2), (3, I_ x3), (4, I_ x4), (5, I_ x5), (6, I_ x6), (7, I_ x7)] [] n (W0 dy) g 0 0 P := by
  refine v_iload 48 7 rfl rfl ?_
  refine v_aload_n 49 0 rfl rfl rfl ?_
  refine v_gI 50 rfl fl12_340_11.r (al 53 rfl hn) (wk53 dy) (by decide) rfl (wc53_41 dy) (x := g 53 41) rfl ?_
  refine v_rng fun w1 => ?_
  have p2 : i3 (g 53 41) := rI w1 (q := 41) (al 53 rfl hn) (wk53 dy) rfl rfl
  have c3 := h.1
  have h := h.2
  refine v_icmp_ge 51 rfl (tgt := 170) rfl c3 p2 (fun q4 => ?_) (fun q4 => ?_)
  · have h := h.1 q4
    refine v_iinc 96 6 [1, 2, 3, 4, 5, 6, 0, 7] rfl rfl (by decide) rfl ?_
    refine v_goto 97 rfl (tgt := 58) rfl ?_
    refine v_loc [0, 1, 2, 3, 4, 5, 6] rfl ?_
    exact h
  · have h := h.2 q4
    refine v_iload 52 5 rfl rfl ?_
    have c5 := h.1
    have h := h.2
    refine v_if_ge 53 rfl (tgt := 170) rfl c5 (fun q6 => ?_) (fun q6 => ?_)
    · have h := h.1 q6
      refine v_iinc 96 6 [1, 2, 3, 4, 5, 6, 0, 7] rfl rfl (by decide) rfl ?_
      refine v_goto 97 rfl (tgt := 58) rfl ?_
      refine v_loc [0, 1, 2, 3, 4, 5, 6] rfl ?_
      exact h
    · have h := h.2 q6
      refine v_aload_n 54 0 rfl rfl rfl ?_
      refine v_gK 55 rfl fl12_115_11.r (al 53 rfl hn) (wk53 dy) (by decide) rfl (r := 88) (wc53_45 dy) ?_
      refine v_iload 56 7 rfl rfl ?_
      have c7 := h.1
      have h := h.2
      refine v_la (N := 8) 57 rfl (al 88 rfl hn) (wk88 dy) (wn88 dy) (by decide) c7 (y := g 88 x7.toNat) rfl ?_
      refine v_rng fun w8 => ?_
      have p9 : i6 (g 88 x7.toNat) := rL w8 (q := x7.toNat) (al 88 rfl hn) (wk88 dy) rfl rfl
      refine v_aload_n 58 0 rfl rfl rfl ?_
      refine v_gK 59 rfl fl12_118_11.r (al 53 rfl hn) (wk53 dy) (by decide) rfl (r := 89) (wc53_46 dy) ?_
      refine v_iload 60 6 rfl rfl ?_
      have c10 := h.1
      have h := h.2
      refine v_la (N := 10) 61 rfl (al 89 rfl hn) (wk89 dy) (wn89 dy) (by decide) c10 (y := g 89 x6.toNat) rfl ?_
      refine v_rng fun w11 => ?_
      have p12 : i6 (g 89 x6.toNat) := rL w11 (q := x6.toNat) (al 89 rfl hn) (wk89 dy) rfl rfl
      refine v_lif_ge 62 rfl rfl (tgt := 114) rfl p9 p12 (fun q13 => ?_) (fun q13 => ?_)
      · have h := h.1 q13
        refine v_aload_n 65 0 rfl rfl rfl ?_
        refine v_gK 66 rfl fl12_115_11.r (al 53 rfl hn) (wk53 dy) (by decide) rfl (r := 88) (wc53_45 dy) ?_
        refine v_iload 67 7 rfl rfl ?_
        refine v_dup2 68 rfl (by intro h; cases h) (by intro h; cases h) ?_
        refine v_la (N := 8) 69 rfl (al 88 rfl hn) (wk88 dy) (wn88 dy) (by decide) c7 (y := g 88 x7.toNat) rfl ?_
        refine v_rng fun w14 => ?_
        have p15 : i6 (g 88 x7.toNat) := rL w14 (q := x7.toNat) (al 88 rfl hn) (wk88 dy) rfl rfl
        refine v_aload_n 70 0 rfl rfl rfl ?_
        refine v_gK 71 rfl fl12_118_11.r (al 53 rfl hn) (wk53 dy) (by decide) rfl (r := 89) (wc53_46 dy) ?_
        refine v_iload 72 6 rfl rfl ?_
        refine v_la (N := 10) 73 rfl (al 89 rfl hn) (wk89 dy) (wn89 dy) (by decide) c10 (y := g 89 x6.toNat) rfl ?_
        refine v_rng fun w16 => ?_
        have p17 : i6 (g 89 x6.toNat) := rL w16 (q := x6.toNat) (al 89 rfl hn) (wk89 dy) rfl rfl
        refine v_lsub 74 rfl ?_
        refine v_nmL (fun y18 ey18 => ?_)
        have h := h y18 ey18
        have c19 := h.1
        have h := h.2
        refine v_last (N := 8) 75 rfl (al 88 rfl hn) (wk88 dy) (wn88 dy) (by decide) c7 c19 ?_
        refine v_aload_n 76 0 rfl rfl rfl ?_
        refine v_iload 77 4 rfl rfl ?_
        refine v_callV (st := []) [I_ x4] 78 rfl lv12_364_fill_11 (al 53 rfl hn) (wk53 dy) (by decide) rfl (Nat.le_refl _) (Nat.le_refl _) ?_
        exact h
      · have h := h.2 q13
        refine v_goto 64 rfl (tgt := 164) rfl ?_
        refine v_iinc 94 7 [1, 2, 3, 4, 5, 6, 7, 0] rfl rfl (by decide) rfl ?_
        refine v_goto 95 rfl (tgt := 79) rfl ?_
        exact h
set_option maxHeartbeats 8000000 in
set_option maxRecDepth 4000 in
theorem bX12_fill_137 {d n : Nat} {dy : Nat → Shp} {g : Hp} {P : Pst} {x1 : Int} {x2 : Int} {x3 : Int} {x4 : Int} {x5 : Int} {x6 : Int} {x7 : Int} {xs0 : Int} (hn : 100 ≤ n) (h : (i3 xs0) ∧ ((xs0 ≤ 0) → (0 ≤ x7 ∧ x7 < 8) ∧ (0 ≤ x6 ∧ x6 < 10) ∧ ∀ y9 : Int, y9 = (g 88 x7.toNat) + (g 89 x6.toNat) → (i6 y9) ∧ V miX12_fill (d + 1) 79 [(0, .ref 53), (1, I_ x1), (2, I_ x2), (3, I_ x3), (4, I_ x4), (5, I_ x5), (6, I_ x6), (7, I_ (x7 + 1))] [] n (W0 dy) (up2 g 88 x7.toNat y9) 0 0 P) ∧ ((0 < xs0) → V miX12_fill (d + 1) 79 [(0, .ref 53), (1, I_ x1), (2, I_ x2), (3, I_ x3), (4, I_ x4), (5, I_ x7), (6, I_ x6), (7, I_ (x7 + 1))] [] n (W0 dy) g 0 0 P)) : V miX12_fill (d + 1) 137 [(0, .ref 53), (1, I_ x1), (2, I_ x2), (3, I_ x3), (4, I_ x4), (5, I_ x5), (6, I_ x6), (7, I_ x7)] [I_ xs0] n (W0 dy) g 0 0 P := by
  have c1 := h.1
  have h := h.2
  refine v_if_le 79 rfl (tgt := 147) rfl c1 (fun q2 => ?_) (fun q2 => ?_)
  · have h := h.1 q2
    refine v_aload_n 83 0 rfl rfl rfl ?_
    refine v_gK 84 rfl fl12_115_11.r (al 53 rfl hn) (wk53 dy) (by decide) rfl (r := 88) (wc53_45 dy) ?_
    refine v_iload 85 7 rfl rfl ?_
    refine v_dup2 86 rfl (by intro h; cases h) (by intro h; cases h) ?_
    have c3 := h.1
    have h := h.2
    refine v_la (N := 8) 87 rfl (al 88 rfl hn) (wk88 dy) (wn88 dy) (by decide) c3 (y := g 88 x7.toNat) rfl ?_
    refine v_rng fun w4 => ?_
    have p5 : i6 (g 88 x7.toNat) := rL w4 (q := x7.toNat) (al 88 rfl hn) (wk88 dy) rfl rfl
    refine v_aload_n 88 0 rfl rfl rfl ?_
    refine v_gK 89 rfl fl12_118_11.r (al 53 rfl hn) (wk53 dy) (by decide) rfl (r := 89) (wc53_46 dy) ?_
    refine v_iload 90 6 rfl rfl ?_
    have c6 := h.1
    have h := h.2
    refine v_la (N := 10) 91 rfl (al 89 rfl hn) (wk89 dy) (wn89 dy) (by decide) c6 (y := g 89 x6.toNat) rfl ?_
    refine v_rng fun w7 => ?_
    have p8 : i6 (g 89 x6.toNat) := rL w7 (q := x6.toNat) (al 89 rfl hn) (wk89 dy) rfl rfl
    refine v_ladd 92 rfl ?_
    refine v_nmL (fun y9 ey9 => ?_)
    have h := h y9 ey9
    have c10 := h.1
    have h := h.2
    refine v_last (N := 8) 93 rfl (al 88 rfl hn) (wk88 dy) (wn88 dy) (by decide) c3 c10 ?_
    refine v_iinc 94 7 [1, 2, 3, 4, 5, 6, 7, 0] rfl rfl (by decide) rfl ?_
    refine v_goto 95 rfl (tgt := 79) rfl ?_
    exact h
  · have h := h.2 q2
    refine v_iload 80 7 rfl rfl ?_
    refine v_istore 81 [1, 2, 3, 4, 5, 0, 6, 7] rfl (by decide) rfl ?_
    refine v_goto 82 rfl (tgt := 164) rfl ?_
    refine v_iinc 94 7 [1, 2, 3, 4, 5, 6, 7, 0] rfl rfl (by decide) rfl ?_
    refine v_goto 95 rfl (tgt := 79) rfl ?_
    exact h
theorem wX12_fill {d n : Nat} {dy : Nat → Shp} {g : Hp} {P : Pst} {x1 : Int} {x2 : Int} {x3 : Int} (hn : 100 ≤ n) (h : Runs miX12_parted d [.ref 53, I_ x1, I_ x2, I_ x3, I_ 1] n (W0 dy) (up2 g 53 1 0) (fun v n' S' g' => V miX12_fill (d + 1) 14 [(0, .ref 53), (1, I_ x1), (2, I_ x2), (3, I_ x3)] (v.toList ++ [.ref 53]) n' S' g' 0 0 P)) : Runs miX12_fill (d + 1) [.ref 53, I_ x1, I_ x2, I_ x3] n (W0 dy) g P := Runs.of rfl rfl deX12_fill (Nat.le_of_ble_eq_true rfl) (bX12_fill_0 hn h)
theorem fl12_139_11 : FL RX12 139 11 54 true (.array .int) := ⟨RX12, TX12, 58, "MobileMakerModel", rfl, rfl, by decide, kf11, tbG_in (List.mem_append_right _ (List.mem_of_getElem? (i := 1181) (by decide +kernel))) rfl, Or.inl rfl, rfl, by decide +kernel, ⟨tyX12, tyX12_ok⟩, nmX12, fun _ => rfl⟩
theorem fl12_372_11 : FL RX12 372 11 26 false .int := ⟨RX12, TX12, 58, "MobileMakerModel", rfl, rfl, by decide, kf11, tbG_in (List.mem_append_right _ (List.mem_of_getElem? (i := 1153) (by decide +kernel))) rfl, Or.inl rfl, rfl, by decide +kernel, ⟨tyX12, tyX12_ok⟩, nmX12, fun h => by cases h⟩
theorem fl12_81_11 : FL RX12 81 11 27 true (.array .int) := ⟨RX12, TX12, 58, "MobileMakerModel", rfl, rfl, by decide, kf11, tbG_in (List.mem_append_right _ (List.mem_of_getElem? (i := 1154) (by decide +kernel))) rfl, Or.inl rfl, rfl, by decide +kernel, ⟨tyX12, tyX12_ok⟩, nmX12, fun _ => rfl⟩
theorem lv12_222_fewest_11 : LkV miX12_fewest miX12_isPart 222 1 11 := ⟨⟨⟨tbG_in (List.mem_append_right _ (List.mem_of_getElem? (i := 1400) (by decide +kernel))) rfl, tbG_in (List.mem_append_right _ (List.mem_of_getElem? (i := 9) (by decide +kernel))) rfl, tbG_in (List.mem_append_right _ (List.mem_of_getElem? (i := 1397) (by decide +kernel))) rfl⟩, ⟨by decide +kernel, by decide +kernel, by decide +kernel⟩, by decide⟩, tbG_in (List.mem_append_right _ (List.mem_of_getElem? (i := 1399) (by decide +kernel))) rfl, RX12, TX12, 58, rfl, tbG_in (List.mem_append_left _ (List.mem_of_getElem? (i := 56) (by decide +kernel))) rfl⟩
theorem lv12_237_fewest_11 : LkV miX12_fewest miX12_isRod 237 1 11 := ⟨⟨⟨tbG_in (List.mem_append_right _ (List.mem_of_getElem? (i := 1428) (by decide +kernel))) rfl, tbG_in (List.mem_append_right _ (List.mem_of_getElem? (i := 9) (by decide +kernel))) rfl, tbG_in (List.mem_append_right _ (List.mem_of_getElem? (i := 1425) (by decide +kernel))) rfl⟩, ⟨by decide +kernel, by decide +kernel, by decide +kernel⟩, by decide⟩, tbG_in (List.mem_append_right _ (List.mem_of_getElem? (i := 1427) (by decide +kernel))) rfl, RX12, TX12, 58, rfl, tbG_in (List.mem_append_left _ (List.mem_of_getElem? (i := 60) (by decide +kernel))) rfl⟩
theorem lv12_174_fewest_11 : LkV miX12_fewest miX12_refuse 174 1 11 := ⟨⟨⟨tbG_in (List.mem_append_right _ (List.mem_of_getElem? (i := 1351) (by decide +kernel))) rfl, tbG_in (List.mem_append_right _ (List.mem_of_getElem? (i := 9) (by decide +kernel))) rfl, tbG_in (List.mem_append_right _ (List.mem_of_getElem? (i := 1348) (by decide +kernel))) rfl⟩, ⟨by decide +kernel, by decide +kernel, by decide +kernel⟩, by decide⟩, tbG_in (List.mem_append_right _ (List.mem_of_getElem? (i := 1350) (by decide +kernel))) rfl, RX12, TX12, 58, rfl, tbG_in (List.mem_append_left _ (List.mem_of_getElem? (i := 50) (by decide +kernel))) rfl⟩
theorem lv12_268_fewest_11 : LkV miX12_fewest miX12_allThere 268 0 11 := ⟨⟨⟨tbG_in (List.mem_append_right _ (List.mem_of_getElem? (i := 1465) (by decide +kernel))) rfl, tbG_in (List.mem_append_right _ (List.mem_of_getElem? (i := 9) (by decide +kernel))) rfl, tbG_in (List.mem_append_right _ (List.mem_of_getElem? (i := 1462) (by decide +kernel))) rfl⟩, ⟨by decide +kernel, by decide +kernel, by decide +kernel⟩, by decide⟩, tbG_in (List.mem_append_right _ (List.mem_of_getElem? (i := 1464) (by decide +kernel))) rfl, RX12, TX12, 58, rfl, tbG_in (List.mem_append_left _ (List.mem_of_getElem? (i := 63) (by decide +kernel))) rfl⟩
theorem lv12_277_fewest_11 : LkV miX12_fewest miX12_marks 277 1 11 := ⟨⟨⟨tbG_in (List.mem_append_right _ (List.mem_of_getElem? (i := 1505) (by decide +kernel))) rfl, tbG_in (List.mem_append_right _ (List.mem_of_getElem? (i := 9) (by decide +kernel))) rfl, tbG_in (List.mem_append_right _ (List.mem_of_getElem? (i := 1502) (by decide +kernel))) rfl⟩, ⟨by decide +kernel, by decide +kernel, by decide +kernel⟩, by decide⟩, tbG_in (List.mem_append_right _ (List.mem_of_getElem? (i := 1504) (by decide +kernel))) rfl, RX12, TX12, 58, rfl, tbG_in (List.mem_append_left _ (List.mem_of_getElem? (i := 71) (by decide +kernel))) rfl⟩
theorem lv12_280_fewest_11 : LkV miX12_fewest miX12_wrongRods 280 0 11 := ⟨⟨⟨tbG_in (List.mem_append_right _ (List.mem_of_getElem? (i := 1509) (by decide +kernel))) rfl, tbG_in (List.mem_append_right _ (List.mem_of_getElem? (i := 9) (by decide +kernel))) rfl, tbG_in (List.mem_append_right _ (List.mem_of_getElem? (i := 1506) (by decide +kernel))) rfl⟩, ⟨by decide +kernel, by decide +kernel, by decide +kernel⟩, by decide⟩, tbG_in (List.mem_append_right _ (List.mem_of_getElem? (i := 1508) (by decide +kernel))) rfl, RX12, TX12, 58, rfl, tbG_in (List.mem_append_left _ (List.mem_of_getElem? (i := 72) (by decide +kernel))) rfl⟩
theorem ls12_367_fewest : LkS miX12_fewest miJ6_bitCount_0f7a4 367 1 := ⟨⟨⟨tbG_in (List.mem_append_right _ (List.mem_of_getElem? (i := 1629) (by decide +kernel))) rfl, tbG_in (List.mem_append_right _ (List.mem_of_getElem? (i := 16) (by decide +kernel))) rfl, tbG_in (List.mem_append_right _ (List.mem_of_getElem? (i := 1627) (by decide +kernel))) rfl⟩, ⟨by decide +kernel, by decide +kernel, by decide +kernel⟩, by decide⟩, tbG_in (List.mem_append_right _ (List.mem_of_getElem? (i := 1628) (by decide +kernel))) rfl⟩
theorem lv12_255_fewest_11 : LkV miX12_fewest miX12_loads 255 0 11 := ⟨⟨⟨tbG_in (List.mem_append_right _ (List.mem_of_getElem? (i := 1473) (by decide +kernel))) rfl, tbG_in (List.mem_append_right _ (List.mem_of_getElem? (i := 9) (by decide +kernel))) rfl, tbG_in (List.mem_append_right _ (List.mem_of_getElem? (i := 1470) (by decide +kernel))) rfl⟩, ⟨by decide +kernel, by decide +kernel, by decide +kernel⟩, by decide⟩, tbG_in (List.mem_append_right _ (List.mem_of_getElem? (i := 1472) (by decide +kernel))) rfl, RX12, TX12, 58, rfl, tbG_in (List.mem_append_left _ (List.mem_of_getElem? (i := 65) (by decide +kernel))) rfl⟩
set_option maxHeartbeats 8000000 in
set_option maxRecDepth 4000 in
theorem bX12_fewest_0 {d n : Nat} {dy : Nat → Shp} {g : Hp} {P : Pst} {x1 : Int} {x2 : Int} (hn : 100 ≤ n) (h : Runs miX12_isPart d [.ref 53, I_ x1] n (W0 dy) (up2 (up2 g 53 1 0) 53 0 0) (fun v n' S' g' => V miX12_fewest (d + 1) 15 [(0, .ref 53), (1, I_ x1), (2, I_ x2)] (v.toList ++ []) n' S' g' 0 0 P)) : V miX12_fewest (d + 1) 0 [(0, .ref 53), (1, I_ x1), (2, I_ x2)] [] n (W0 dy) g 0 0 P := by
  refine v_aload_n 0 0 rfl rfl rfl ?_
  refine v_iconst 1 rfl ?_
  refine v_putI 2 rfl fl12_148_11 (al 53 rfl hn) (wk53 dy) (by decide) rfl (wc53_1 dy) (by decide) ?_
  refine v_aload_n 3 0 rfl rfl rfl ?_
  refine v_iconst 4 rfl ?_
  refine v_putI 5 rfl fl12_152_11 (al 53 rfl hn) (wk53 dy) (by decide) rfl (wc53_0 dy) (by decide) ?_
  refine v_aload_n 6 0 rfl rfl rfl ?_
  refine v_iload_n 7 1 rfl rfl rfl ?_
  refine v_callV (st := []) [I_ x1] 8 rfl lv12_222_fewest_11 (al 53 rfl hn) (wk53 dy) (by decide) rfl (Nat.le_refl _) (Nat.le_refl _) ?_
  exact h
set_option maxHeartbeats 8000000 in
set_option maxRecDepth 4000 in
theorem bX12_fewest_15 {d n : Nat} {dy : Nat → Shp} {g : Hp} {P : Pst} {x1 : Int} {x2 : Int} {xs0 : Int} (hn : 100 ≤ n) (h : (i3 xs0) ∧ ((xs0 ≠ 0) → Runs miX12_isRod d [.ref 53, I_ x1] n (W0 dy) g (fun v n' S' g' => V miX12_fewest (d + 1) 29 [(0, .ref 53), (1, I_ x1), (2, I_ x2)] (v.toList ++ []) n' S' g' 0 0 P)) ∧ ((xs0 = 0) → Runs miX12_refuse d [.ref 53, I_ 2] n (W0 dy) g (fun v n' S' g' => V miX12_fewest (d + 1) 23 [(0, .ref 53), (1, I_ x1), (2, I_ x2)] (v.toList ++ []) n' S' g' 0 0 P))) : V miX12_fewest (d + 1) 15 [(0, .ref 53), (1, I_ x1), (2, I_ x2)] [I_ xs0] n (W0 dy) g 0 0 P := by
  have c1 := h.1
  have h := h.2
  refine v_if_ne 9 rfl (tgt := 24) rfl c1 (fun q2 => ?_) (fun q2 => ?_)
  · have h := h.1 q2
    refine v_aload_n 14 0 rfl rfl rfl ?_
    refine v_iload_n 15 1 rfl rfl rfl ?_
    refine v_callV (st := []) [I_ x1] 16 rfl lv12_237_fewest_11 (al 53 rfl hn) (wk53 dy) (by decide) rfl (Nat.le_refl _) (Nat.le_refl _) ?_
    exact h
  · have h := h.2 q2
    refine v_aload_n 10 0 rfl rfl rfl ?_
    refine v_iconst 11 rfl ?_
    refine v_callV (st := []) [I_ 2] 12 rfl lv12_174_fewest_11 (al 53 rfl hn) (wk53 dy) (by decide) rfl (Nat.le_refl _) (Nat.le_refl _) ?_
    exact h
set_option maxHeartbeats 8000000 in
set_option maxRecDepth 4000 in
theorem bX12_fewest_23 {d n : Nat} {dy : Nat → Shp} {g : Hp} {P : Pst} {x1 : Int} {x2 : Int} {xs0 : Int} (hn : 100 ≤ n) (h : P (some (I_ xs0)) n (W0 dy) g) : V miX12_fewest (d + 1) 23 [(0, .ref 53), (1, I_ x1), (2, I_ x2)] [I_ xs0] n (W0 dy) g 0 0 P := by
  exact v_ret (v := some (I_ xs0)) 13 rfl (Nat.zero_le _) (Nat.zero_le _) trivial rfl h
set_option maxHeartbeats 8000000 in
set_option maxRecDepth 4000 in
theorem bX12_fewest_29 {d n : Nat} {dy : Nat → Shp} {g : Hp} {P : Pst} {x1 : Int} {x2 : Int} {xs0 : Int} (hn : 100 ≤ n) (h : (i3 xs0) ∧ ((xs0 ≠ 0) → (i3 x2) ∧ ((x2 < 0) → Runs miX12_refuse d [.ref 53, I_ 7] n (W0 dy) g (fun v n' S' g' => V miX12_fewest (d + 1) 54 [(0, .ref 53), (1, I_ x1), (2, I_ x2)] (v.toList ++ []) n' S' g' 0 0 P)) ∧ ((0 ≤ x2) → ((x2 ≤ 14) → (0 ≤ x1 ∧ x1 < 60) ∧ (((g 60 x1.toNat) < 0) → Runs miX12_allThere d [.ref 53] n (W0 dy) g (fun v n' S' g' => V miX12_fewest (d + 1) 75 [(0, .ref 53), (1, I_ x1), (2, I_ x2)] (v.toList ++ []) n' S' g' 0 0 P)) ∧ ((0 ≤ (g 60 x1.toNat)) → Runs miX12_refuse d [.ref 53, I_ 8] n (W0 dy) g (fun v n' S' g' => V miX12_fewest (d + 1) 70 [(0, .ref 53), (1, I_ x1), (2, I_ x2)] (v.toList ++ []) n' S' g' 0 0 P))) ∧ ((14 < x2) → Runs miX12_refuse d [.ref 53, I_ 7] n (W0 dy) g (fun v n' S' g' => V miX12_fewest (d + 1) 54 [(0, .ref 53), (1, I_ x1), (2, I_ x2)] (v.toList ++ []) n' S' g' 0 0 P)))) ∧ ((xs0 = 0) → Runs miX12_refuse d [.ref 53, I_ 5] n (W0 dy) g (fun v n' S' g' => V miX12_fewest (d + 1) 37 [(0, .ref 53), (1, I_ x1), (2, I_ x2)] (v.toList ++ []) n' S' g' 0 0 P))) : V miX12_fewest (d + 1) 29 [(0, .ref 53), (1, I_ x1), (2, I_ x2)] [I_ xs0] n (W0 dy) g 0 0 P := by
  have c1 := h.1
  have h := h.2
  refine v_if_ne 17 rfl (tgt := 38) rfl c1 (fun q2 => ?_) (fun q2 => ?_)
  · have h := h.1 q2
    refine v_iload_n 22 2 rfl rfl rfl ?_
    have c3 := h.1
    have h := h.2
    refine v_if_lt 23 rfl (tgt := 48) rfl c3 (fun q4 => ?_) (fun q4 => ?_)
    · have h := h.1 q4
      refine v_aload_n 27 0 rfl rfl rfl ?_
      refine v_bipush 28 rfl (by decide) ?_
      refine v_callV (st := []) [I_ 7] 29 rfl lv12_174_fewest_11 (al 53 rfl hn) (wk53 dy) (by decide) rfl (Nat.le_refl _) (Nat.le_refl _) ?_
      exact h
    · have h := h.2 q4
      refine v_iload_n 24 2 rfl rfl rfl ?_
      refine v_bipush 25 rfl (by decide) ?_
      refine v_icmp_le 26 rfl (tgt := 55) rfl c3 (by decide) (fun q5 => ?_) (fun q5 => ?_)
      · have h := h.1 q5
        refine v_aload_n 31 0 rfl rfl rfl ?_
        refine v_gK 32 rfl fl12_29_11.r (al 53 rfl hn) (wk53 dy) (by decide) rfl (r := 60) (wc53_9 dy) ?_
        refine v_iload_n 33 1 rfl rfl rfl ?_
        have c6 := h.1
        have h := h.2
        refine v_ia (N := 60) 34 rfl (al 60 rfl hn) (wk60 dy) (wn60 dy) (by decide) c6 (y := g 60 x1.toNat) rfl ?_
        refine v_rng fun w7 => ?_
        have p8 : i3 (g 60 x1.toNat) := rI w7 (q := x1.toNat) (al 60 rfl hn) (wk60 dy) rfl rfl
        refine v_if_lt 35 rfl (tgt := 71) rfl p8 (fun q9 => ?_) (fun q9 => ?_)
        · have h := h.1 q9
          refine v_aload_n 40 0 rfl rfl rfl ?_
          refine v_callV (st := []) [] 41 rfl lv12_268_fewest_11 (al 53 rfl hn) (wk53 dy) (by decide) rfl (Nat.le_refl _) (Nat.le_refl _) ?_
          exact h
        · have h := h.2 q9
          refine v_aload_n 36 0 rfl rfl rfl ?_
          refine v_bipush 37 rfl (by decide) ?_
          refine v_callV (st := []) [I_ 8] 38 rfl lv12_174_fewest_11 (al 53 rfl hn) (wk53 dy) (by decide) rfl (Nat.le_refl _) (Nat.le_refl _) ?_
          exact h
      · have h := h.2 q5
        refine v_aload_n 27 0 rfl rfl rfl ?_
        refine v_bipush 28 rfl (by decide) ?_
        refine v_callV (st := []) [I_ 7] 29 rfl lv12_174_fewest_11 (al 53 rfl hn) (wk53 dy) (by decide) rfl (Nat.le_refl _) (Nat.le_refl _) ?_
        exact h
  · have h := h.2 q2
    refine v_aload_n 18 0 rfl rfl rfl ?_
    refine v_iconst 19 rfl ?_
    refine v_callV (st := []) [I_ 5] 20 rfl lv12_174_fewest_11 (al 53 rfl hn) (wk53 dy) (by decide) rfl (Nat.le_refl _) (Nat.le_refl _) ?_
    exact h
set_option maxHeartbeats 8000000 in
set_option maxRecDepth 4000 in
theorem bX12_fewest_37 {d n : Nat} {dy : Nat → Shp} {g : Hp} {P : Pst} {x1 : Int} {x2 : Int} {xs0 : Int} (hn : 100 ≤ n) (h : P (some (I_ xs0)) n (W0 dy) g) : V miX12_fewest (d + 1) 37 [(0, .ref 53), (1, I_ x1), (2, I_ x2)] [I_ xs0] n (W0 dy) g 0 0 P := by
  exact v_ret (v := some (I_ xs0)) 21 rfl (Nat.zero_le _) (Nat.zero_le _) trivial rfl h
set_option maxHeartbeats 8000000 in
set_option maxRecDepth 4000 in
theorem bX12_fewest_54 {d n : Nat} {dy : Nat → Shp} {g : Hp} {P : Pst} {x1 : Int} {x2 : Int} {xs0 : Int} (hn : 100 ≤ n) (h : P (some (I_ xs0)) n (W0 dy) g) : V miX12_fewest (d + 1) 54 [(0, .ref 53), (1, I_ x1), (2, I_ x2)] [I_ xs0] n (W0 dy) g 0 0 P := by
  exact v_ret (v := some (I_ xs0)) 30 rfl (Nat.zero_le _) (Nat.zero_le _) trivial rfl h
set_option maxHeartbeats 8000000 in
set_option maxRecDepth 4000 in
theorem bX12_fewest_70 {d n : Nat} {dy : Nat → Shp} {g : Hp} {P : Pst} {x1 : Int} {x2 : Int} {xs0 : Int} (hn : 100 ≤ n) (h : P (some (I_ xs0)) n (W0 dy) g) : V miX12_fewest (d + 1) 70 [(0, .ref 53), (1, I_ x1), (2, I_ x2)] [I_ xs0] n (W0 dy) g 0 0 P := by
  exact v_ret (v := some (I_ xs0)) 39 rfl (Nat.zero_le _) (Nat.zero_le _) trivial rfl h
set_option maxHeartbeats 8000000 in
set_option maxRecDepth 4000 in
theorem bX12_fewest_75 {d n : Nat} {dy : Nat → Shp} {g : Hp} {P : Pst} {x1 : Int} {x2 : Int} (hn : 100 ≤ n) (h : Runs miX12_marks d [.ref 53, I_ x1] n (W0 dy) g (fun v n' S' g' => V miX12_fewest (d + 1) 80 [(0, .ref 53), (1, I_ x1), (2, I_ x2)] (v.toList ++ []) n' S' g' 0 0 P)) : V miX12_fewest (d + 1) 75 [(0, .ref 53), (1, I_ x1), (2, I_ x2)] [] n (W0 dy) g 0 0 P := by
  refine v_aload_n 42 0 rfl rfl rfl ?_
  refine v_iload_n 43 1 rfl rfl rfl ?_
  refine v_callV (st := []) [I_ x1] 44 rfl lv12_277_fewest_11 (al 53 rfl hn) (wk53 dy) (by decide) rfl (Nat.le_refl _) (Nat.le_refl _) ?_
  exact h
set_option maxHeartbeats 8000000 in
set_option maxRecDepth 4000 in
theorem bX12_fewest_80 {d n : Nat} {dy : Nat → Shp} {g : Hp} {P : Pst} {x1 : Int} {x2 : Int} (hn : 100 ≤ n) (h : Runs miX12_wrongRods d [.ref 53] n (W0 dy) g (fun v n' S' g' => V miX12_fewest (d + 1) 84 [(0, .ref 53), (1, I_ x1), (2, I_ x2)] (v.toList ++ []) n' S' g' 0 0 P)) : V miX12_fewest (d + 1) 80 [(0, .ref 53), (1, I_ x1), (2, I_ x2)] [] n (W0 dy) g 0 0 P := by
  refine v_aload_n 45 0 rfl rfl rfl ?_
  refine v_callV (st := []) [] 46 rfl lv12_280_fewest_11 (al 53 rfl hn) (wk53 dy) (by decide) rfl (Nat.le_refl _) (Nat.le_refl _) ?_
  exact h
set_option maxHeartbeats 8000000 in
set_option maxRecDepth 4000 in
theorem bX12_fewest_84 {d n : Nat} {dy : Nat → Shp} {g : Hp} {P : Pst} {x1 : Int} {x2 : Int} {xs0 : Int} (hn : 100 ≤ n) (h : (i3 xs0) ∧ ((xs0 ≤ 0) → V miX12_fewest (d + 1) 99 [(0, .ref 53), (1, I_ x1), (2, I_ x2), (3, I_ 0), (4, I_ 0)] [] n (W0 dy) g 0 0 P) ∧ ((0 < xs0) → Runs miX12_refuse d [.ref 53, I_ 9] n (W0 dy) g (fun v n' S' g' => V miX12_fewest (d + 1) 93 [(0, .ref 53), (1, I_ x1), (2, I_ x2)] (v.toList ++ []) n' S' g' 0 0 P))) : V miX12_fewest (d + 1) 84 [(0, .ref 53), (1, I_ x1), (2, I_ x2)] [I_ xs0] n (W0 dy) g 0 0 P := by
  have c1 := h.1
  have h := h.2
  refine v_if_le 47 rfl (tgt := 94) rfl c1 (fun q2 => ?_) (fun q2 => ?_)
  · have h := h.1 q2
    refine v_iconst 52 rfl ?_
    refine v_istore_n 53 [1, 2, 3, 0] rfl rfl (by decide) rfl ?_
    refine v_iconst 54 rfl ?_
    refine v_istore 55 [1, 2, 3, 4, 0] rfl (by decide) rfl ?_
    exact h
  · have h := h.2 q2
    refine v_aload_n 48 0 rfl rfl rfl ?_
    refine v_bipush 49 rfl (by decide) ?_
    refine v_callV (st := []) [I_ 9] 50 rfl lv12_174_fewest_11 (al 53 rfl hn) (wk53 dy) (by decide) rfl (Nat.le_refl _) (Nat.le_refl _) ?_
    exact h
set_option maxHeartbeats 8000000 in
set_option maxRecDepth 4000 in
theorem bX12_fewest_93 {d n : Nat} {dy : Nat → Shp} {g : Hp} {P : Pst} {x1 : Int} {x2 : Int} {xs0 : Int} (hn : 100 ≤ n) (h : P (some (I_ xs0)) n (W0 dy) g) : V miX12_fewest (d + 1) 93 [(0, .ref 53), (1, I_ x1), (2, I_ x2)] [I_ xs0] n (W0 dy) g 0 0 P := by
  exact v_ret (v := some (I_ xs0)) 51 rfl (Nat.zero_le _) (Nat.zero_le _) trivial rfl h
set_option maxHeartbeats 8000000 in
set_option maxRecDepth 4000 in
theorem bX12_fewest_99 {d n : Nat} {dy : Nat → Shp} {g : Hp} {P : Pst} {x1 : Int} {x2 : Int} {x3 : Int} {x4 : Int} (hn : 100 ≤ n) (h : (i3 x4) ∧ (((g 53 5) ≤ x4) → (i3 x3) ∧ ((x3 ≤ 14) → V miX12_fewest (d + 1) 172 [(0, .ref 53), (1, I_ x1), (2, I_ x2), (3, I_ x3), (4, I_ ((-1))), (5, I_ ((shl3 1 x3) - 1))] [] n (W0 dy) g 0 0 P) ∧ ((14 < x3) → Runs miX12_refuse d [.ref 53, I_ 10] n (W0 dy) g (fun v n' S' g' => V miX12_fewest (d + 1) 161 [(0, .ref 53), (1, I_ x1), (2, I_ x2), (3, I_ x3), (4, I_ x4)] (v.toList ++ []) n' S' g' 0 0 P))) ∧ ((x4 < (g 53 5)) → (0 ≤ x4 ∧ x4 < 60) ∧ (((g 75 x4.toNat) = 0) → V miX12_fewest (d + 1) 99 [(0, .ref 53), (1, I_ x1), (2, I_ x2), (3, I_ x3), (4, I_ (x4 + 1))] [] n (W0 dy) g 0 0 P) ∧ (((g 75 x4.toNat) ≠ 0) → (((g 57 x4.toNat) = 1) → (0 ≤ x3 ∧ x3 < 60) ∧ V miX12_fewest (d + 1) 99 [(0, .ref 53), (1, I_ x1), (2, I_ x2), (3, I_ (x3 + 1)), (4, I_ (x4 + 1))] [] n (W0 dy) (up2 g 96 x3.toNat x4) 0 0 P) ∧ (((g 57 x4.toNat) ≠ 1) → V miX12_fewest (d + 1) 99 [(0, .ref 53), (1, I_ x1), (2, I_ x2), (3, I_ x3), (4, I_ (x4 + 1))] [] n (W0 dy) g 0 0 P)))) : V miX12_fewest (d + 1) 99 [(0, .ref 53), (1, I_ x1), (2, I_ x2), (3, I_ x3), (4, I_ x4)] [] n (W0 dy) g 0 0 P := by
  refine v_iload 56 4 rfl rfl ?_
  refine v_aload_n 57 0 rfl rfl rfl ?_
  refine v_gI 58 rfl fl12_169_11.r (al 53 rfl hn) (wk53 dy) (by decide) rfl (wc53_5 dy) (x := g 53 5) rfl ?_
  refine v_rng fun w1 => ?_
  have p2 : i3 (g 53 5) := rI w1 (q := 5) (al 53 rfl hn) (wk53 dy) rfl rfl
  have c3 := h.1
  have h := h.2
  refine v_icmp_ge 59 rfl (tgt := 149) rfl c3 p2 (fun q4 => ?_) (fun q4 => ?_)
  · have h := h.1 q4
    refine v_iload_n 80 3 rfl rfl rfl ?_
    refine v_bipush 81 rfl (by decide) ?_
    have c5 := h.1
    have h := h.2
    refine v_icmp_le 82 rfl (tgt := 162) rfl c5 (by decide) (fun q6 => ?_) (fun q6 => ?_)
    · have h := h.1 q6
      refine v_iconst 87 rfl ?_
      refine v_istore 88 [1, 2, 3, 4, 0] rfl (by decide) rfl ?_
      refine v_iconst 89 rfl ?_
      refine v_iload_n 90 3 rfl rfl rfl ?_
      refine v_ishl 91 rfl ?_
      refine v_iconst 92 rfl ?_
      refine v_isub 93 rfl ?_
      refine v_istore 94 [1, 2, 3, 4, 5, 0] rfl (by decide) rfl ?_
      exact h
    · have h := h.2 q6
      refine v_aload_n 83 0 rfl rfl rfl ?_
      refine v_bipush 84 rfl (by decide) ?_
      refine v_callV (st := []) [I_ 10] 85 rfl lv12_174_fewest_11 (al 53 rfl hn) (wk53 dy) (by decide) rfl (Nat.le_refl _) (Nat.le_refl _) ?_
      exact h
  · have h := h.2 q4
    refine v_aload_n 60 0 rfl rfl rfl ?_
    refine v_gK 61 rfl fl12_74_11.r (al 53 rfl hn) (wk53 dy) (by decide) rfl (r := 75) (wc53_24 dy) ?_
    refine v_iload 62 4 rfl rfl ?_
    have c7 := h.1
    have h := h.2
    refine v_za (N := 60) 63 rfl (al 75 rfl hn) (wk75 dy) (wn75 dy) (by decide) c7 (y := g 75 x4.toNat) rfl ?_
    refine v_rng fun w8 => ?_
    have p9 : i3 (g 75 x4.toNat) := rI w8 (q := x4.toNat) (al 75 rfl hn) (wk75 dy) rfl rfl
    refine v_if_eq 64 rfl (tgt := 143) rfl p9 (fun q10 => ?_) (fun q10 => ?_)
    · have h := h.1 q10
      refine v_iinc 78 4 [1, 2, 3, 4, 0] rfl rfl (by decide) rfl ?_
      refine v_goto 79 rfl (tgt := 99) rfl ?_
      exact h
    · have h := h.2 q10
      refine v_aload_n 65 0 rfl rfl rfl ?_
      refine v_gK 66 rfl fl12_20_11.r (al 53 rfl hn) (wk53 dy) (by decide) rfl (r := 57) (wc53_6 dy) ?_
      refine v_iload 67 4 rfl rfl ?_
      refine v_ia (N := 60) 68 rfl (al 57 rfl hn) (wk57 dy) (wn57 dy) (by decide) c7 (y := g 57 x4.toNat) rfl ?_
      refine v_rng fun w11 => ?_
      have p12 : i3 (g 57 x4.toNat) := rI w11 (q := x4.toNat) (al 57 rfl hn) (wk57 dy) rfl rfl
      refine v_iconst 69 rfl ?_
      refine v_icmp_eq 70 rfl (tgt := 132) rfl p12 (by decide) (fun q13 => ?_) (fun q13 => ?_)
      · have h := h.1 q13
        refine v_aload_n 72 0 rfl rfl rfl ?_
        refine v_gK 73 rfl fl12_139_11.r (al 53 rfl hn) (wk53 dy) (by decide) rfl (r := 96) (wc53_54 dy) ?_
        refine v_iload_n 74 3 rfl rfl rfl ?_
        refine v_iload 75 4 rfl rfl ?_
        have c14 := h.1
        have h := h.2
        refine v_iast (N := 60) 76 rfl (al 96 rfl hn) (wk96 dy) (wn96 dy) (by decide) c14 c3 ?_
        refine v_iinc 77 3 [1, 2, 3, 0, 4] rfl rfl (by decide) rfl ?_
        refine v_iinc 78 4 [1, 2, 3, 4, 0] rfl rfl (by decide) rfl ?_
        refine v_goto 79 rfl (tgt := 99) rfl ?_
        exact h
      · have h := h.2 q13
        refine v_goto 71 rfl (tgt := 143) rfl ?_
        refine v_iinc 78 4 [1, 2, 3, 4, 0] rfl rfl (by decide) rfl ?_
        refine v_goto 79 rfl (tgt := 99) rfl ?_
        exact h
set_option maxHeartbeats 8000000 in
set_option maxRecDepth 4000 in
theorem bX12_fewest_161 {d n : Nat} {dy : Nat → Shp} {g : Hp} {P : Pst} {x1 : Int} {x2 : Int} {x3 : Int} {x4 : Int} {xs0 : Int} (hn : 100 ≤ n) (h : P (some (I_ xs0)) n (W0 dy) g) : V miX12_fewest (d + 1) 161 [(0, .ref 53), (1, I_ x1), (2, I_ x2), (3, I_ x3), (4, I_ x4)] [I_ xs0] n (W0 dy) g 0 0 P := by
  exact v_ret (v := some (I_ xs0)) 86 rfl (Nat.zero_le _) (Nat.zero_le _) trivial rfl h
set_option maxHeartbeats 8000000 in
set_option maxRecDepth 4000 in
theorem bX12_fewest_172 {d n : Nat} {dy : Nat → Shp} {g : Hp} {P : Pst} {x1 : Int} {x2 : Int} {x3 : Int} {x4 : Int} {x5 : Int} (hn : 100 ≤ n) (h : (i3 x5) ∧ ((x5 < 0) → (i3 x4) ∧ ((0 ≤ x4) → V miX12_fewest (d + 1) 296 [(0, .ref 53), (1, I_ x1), (2, I_ x2), (3, I_ x3), (4, I_ x4), (5, I_ 0)] [] n (W0 dy) (up2 g 53 26 0) 0 0 P) ∧ ((x4 < 0) → Runs miX12_refuse d [.ref 53, I_ 11] n (W0 dy) g (fun v n' S' g' => V miX12_fewest (d + 1) 287 [(0, .ref 53), (1, I_ x1), (2, I_ x2), (3, I_ x3), (4, I_ x4), (5, I_ x5)] (v.toList ++ []) n' S' g' 0 0 P))) ∧ ((0 ≤ x5) → Runs miJ6_bitCount_0f7a4 d [I_ x5] n (W0 dy) g (fun v n' S' g' => V miX12_fewest (d + 1) 182 [(0, .ref 53), (1, I_ x1), (2, I_ x2), (3, I_ x3), (4, I_ x4), (5, I_ x5)] (v.toList ++ []) n' S' g' 0 0 P))) : V miX12_fewest (d + 1) 172 [(0, .ref 53), (1, I_ x1), (2, I_ x2), (3, I_ x3), (4, I_ x4), (5, I_ x5)] [] n (W0 dy) g 0 0 P := by
  refine v_iload 95 5 rfl rfl ?_
  have c1 := h.1
  have h := h.2
  refine v_if_lt 96 rfl (tgt := 276) rfl c1 (fun q2 => ?_) (fun q2 => ?_)
  · have h := h.1 q2
    refine v_iload 147 4 rfl rfl ?_
    have c3 := h.1
    have h := h.2
    refine v_if_ge 148 rfl (tgt := 288) rfl c3 (fun q4 => ?_) (fun q4 => ?_)
    · have h := h.1 q4
      refine v_aload_n 153 0 rfl rfl rfl ?_
      refine v_iconst 154 rfl ?_
      refine v_putI 155 rfl fl12_372_11 (al 53 rfl hn) (wk53 dy) (by decide) rfl (wc53_26 dy) (by decide) ?_
      refine v_iconst 156 rfl ?_
      refine v_istore 157 [1, 2, 3, 4, 5, 0] rfl (by decide) rfl ?_
      exact h
    · have h := h.2 q4
      refine v_aload_n 149 0 rfl rfl rfl ?_
      refine v_bipush 150 rfl (by decide) ?_
      refine v_callV (st := []) [I_ 11] 151 rfl lv12_174_fewest_11 (al 53 rfl hn) (wk53 dy) (by decide) rfl (Nat.le_refl _) (Nat.le_refl _) ?_
      exact h
  · have h := h.2 q2
    refine v_iload 97 5 rfl rfl ?_
    refine v_callS (st := []) [I_ x5] 98 rfl ls12_367_fewest rfl (Nat.lt_of_lt_of_le (by decide) hn) (Nat.le_refl _) (Nat.le_refl _) ?_
    exact h
set_option maxHeartbeats 8000000 in
set_option maxRecDepth 4000 in
theorem bX12_fewest_182 {d n : Nat} {dy : Nat → Shp} {g : Hp} {P : Pst} {x1 : Int} {x2 : Int} {x3 : Int} {x4 : Int} {x5 : Int} {xs0 : Int} (hn : 100 ≤ n) (h : (i3 xs0) ∧ (i3 x2) ∧ ((xs0 < x2) → V miX12_fewest (d + 1) 172 [(0, .ref 53), (1, I_ x1), (2, I_ x2), (3, I_ x3), (4, I_ x4), (5, I_ (x5 + (-1)))] [] n (W0 dy) g 0 0 P) ∧ ((x2 ≤ xs0) → (i3 x4) ∧ ((x4 < 0) → V miX12_fewest (d + 1) 211 [(0, .ref 53), (1, I_ x1), (2, I_ x2), (3, I_ x3), (4, I_ x4), (5, I_ x5), (6, I_ xs0), (7, I_ 0)] [] n (W0 dy) g 0 0 P) ∧ ((0 ≤ x4) → Runs miJ6_bitCount_0f7a4 d [I_ x4] n (W0 dy) g (fun v n' S' g' => V miX12_fewest (d + 1) 202 [(0, .ref 53), (1, I_ x1), (2, I_ x2), (3, I_ x3), (4, I_ x4), (5, I_ x5), (6, I_ xs0)] (v.toList ++ [I_ xs0]) n' S' g' 0 0 P)))) : V miX12_fewest (d + 1) 182 [(0, .ref 53), (1, I_ x1), (2, I_ x2), (3, I_ x3), (4, I_ x4), (5, I_ x5)] [I_ xs0] n (W0 dy) g 0 0 P := by
  refine v_istore 99 [1, 2, 3, 4, 5, 6, 0] rfl (by decide) rfl ?_
  refine v_iload 100 6 rfl rfl ?_
  refine v_iload_n 101 2 rfl rfl rfl ?_
  have c1 := h.1
  have h := h.2
  have c2 := h.1
  have h := h.2
  refine v_icmp_lt 102 rfl (tgt := 270) rfl c1 c2 (fun q3 => ?_) (fun q3 => ?_)
  · have h := h.1 q3
    refine v_iinc 145 5 [1, 2, 3, 4, 5, 0, 6] rfl rfl (by decide) rfl ?_
    refine v_goto 146 rfl (tgt := 172) rfl ?_
    refine v_loc [0, 1, 2, 3, 4, 5] rfl ?_
    exact h
  · have h := h.2 q3
    refine v_iload 103 4 rfl rfl ?_
    have c4 := h.1
    have h := h.2
    refine v_if_lt 104 rfl (tgt := 208) rfl c4 (fun q5 => ?_) (fun q5 => ?_)
    · have h := h.1 q5
      refine v_iconst 110 rfl ?_
      refine v_istore 111 [1, 2, 3, 4, 5, 6, 7, 0] rfl (by decide) rfl ?_
      exact h
    · have h := h.2 q5
      refine v_iload 105 6 rfl rfl ?_
      refine v_iload 106 4 rfl rfl ?_
      refine v_callS (st := [I_ xs0]) [I_ x4] 107 rfl ls12_367_fewest rfl (Nat.lt_of_lt_of_le (by decide) hn) (Nat.le_refl _) (Nat.le_refl _) ?_
      exact h
set_option maxHeartbeats 8000000 in
set_option maxRecDepth 4000 in
theorem bX12_fewest_202 {d n : Nat} {dy : Nat → Shp} {g : Hp} {P : Pst} {x1 : Int} {x2 : Int} {x3 : Int} {x4 : Int} {x5 : Int} {x6 : Int} {xs0 : Int} {xs1 : Int} (hn : 100 ≤ n) (h : (i3 xs0) ∧ (i3 xs1) ∧ ((xs0 < xs1) → V miX12_fewest (d + 1) 211 [(0, .ref 53), (1, I_ x1), (2, I_ x2), (3, I_ x3), (4, I_ x4), (5, I_ x5), (6, I_ x6), (7, I_ 0)] [] n (W0 dy) g 0 0 P) ∧ ((xs1 ≤ xs0) → V miX12_fewest (d + 1) 172 [(0, .ref 53), (1, I_ x1), (2, I_ x2), (3, I_ x3), (4, I_ x4), (5, I_ (x5 + (-1)))] [] n (W0 dy) g 0 0 P)) : V miX12_fewest (d + 1) 202 [(0, .ref 53), (1, I_ x1), (2, I_ x2), (3, I_ x3), (4, I_ x4), (5, I_ x5), (6, I_ x6)] [I_ xs1, I_ xs0] n (W0 dy) g 0 0 P := by
  have c1 := h.1
  have h := h.2
  have c2 := h.1
  have h := h.2
  refine v_icmp_lt 108 rfl (tgt := 208) rfl c1 c2 (fun q3 => ?_) (fun q3 => ?_)
  · have h := h.1 q3
    refine v_iconst 110 rfl ?_
    refine v_istore 111 [1, 2, 3, 4, 5, 6, 7, 0] rfl (by decide) rfl ?_
    exact h
  · have h := h.2 q3
    refine v_goto 109 rfl (tgt := 270) rfl ?_
    refine v_iinc 145 5 [1, 2, 3, 4, 5, 0, 6] rfl rfl (by decide) rfl ?_
    refine v_goto 146 rfl (tgt := 172) rfl ?_
    refine v_loc [0, 1, 2, 3, 4, 5] rfl ?_
    exact h
set_option maxHeartbeats 8000000 in
set_option maxRecDepth 4000 in
theorem bX12_fewest_211 {d n : Nat} {dy : Nat → Shp} {g : Hp} {P : Pst} {x1 : Int} {x2 : Int} {x3 : Int} {x4 : Int} {x5 : Int} {x6 : Int} {x7 : Int} (hn : 100 ≤ n) (h : (i3 x7) ∧ (i3 x3) ∧ ((x3 ≤ x7) → Runs miX12_loads d [.ref 53] n (W0 dy) g (fun v n' S' g' => V miX12_fewest (d + 1) 259 [(0, .ref 53), (1, I_ x1), (2, I_ x2), (3, I_ x3), (4, I_ x4), (5, I_ x5), (6, I_ x6), (7, I_ x7)] (v.toList ++ []) n' S' g' 0 0 P)) ∧ ((x7 < x3) → (0 ≤ x7 ∧ x7 < 60) ∧ (((and3 (shr3 x5 ((x3 - 1) - x7)) 1) ≠ 1) → (0 ≤ g 96 x7.toNat ∧ g 96 x7.toNat < 60) ∧ V miX12_fewest (d + 1) 211 [(0, .ref 53), (1, I_ x1), (2, I_ x2), (3, I_ x3), (4, I_ x4), (5, I_ x5), (6, I_ x6), (7, I_ (x7 + 1))] [] n (W0 dy) (up2 g 76 ((g 96 x7.toNat).toNat) 0) 0 0 P) ∧ (((and3 (shr3 x5 ((x3 - 1) - x7)) 1) = 1) → (0 ≤ g 96 x7.toNat ∧ g 96 x7.toNat < 60) ∧ V miX12_fewest (d + 1) 211 [(0, .ref 53), (1, I_ x1), (2, I_ x2), (3, I_ x3), (4, I_ x4), (5, I_ x5), (6, I_ x6), (7, I_ (x7 + 1))] [] n (W0 dy) (up2 g 76 ((g 96 x7.toNat).toNat) 1) 0 0 P))) : V miX12_fewest (d + 1) 211 [(0, .ref 53), (1, I_ x1), (2, I_ x2), (3, I_ x3), (4, I_ x4), (5, I_ x5), (6, I_ x6), (7, I_ x7)] [] n (W0 dy) g 0 0 P := by
  refine v_iload 112 7 rfl rfl ?_
  refine v_iload_n 113 3 rfl rfl rfl ?_
  have c1 := h.1
  have h := h.2
  have c2 := h.1
  have h := h.2
  refine v_icmp_ge 114 rfl (tgt := 255) rfl c1 c2 (fun q3 => ?_) (fun q3 => ?_)
  · have h := h.1 q3
    refine v_aload_n 138 0 rfl rfl rfl ?_
    refine v_callV (st := []) [] 139 rfl lv12_255_fewest_11 (al 53 rfl hn) (wk53 dy) (by decide) rfl (Nat.le_refl _) (Nat.le_refl _) ?_
    exact h
  · have h := h.2 q3
    refine v_aload_n 115 0 rfl rfl rfl ?_
    refine v_gK 116 rfl fl12_78_11.r (al 53 rfl hn) (wk53 dy) (by decide) rfl (r := 76) (wc53_25 dy) ?_
    refine v_aload_n 117 0 rfl rfl rfl ?_
    refine v_gK 118 rfl fl12_139_11.r (al 53 rfl hn) (wk53 dy) (by decide) rfl (r := 96) (wc53_54 dy) ?_
    refine v_iload 119 7 rfl rfl ?_
    have c4 := h.1
    have h := h.2
    refine v_ia (N := 60) 120 rfl (al 96 rfl hn) (wk96 dy) (wn96 dy) (by decide) c4 (y := g 96 x7.toNat) rfl ?_
    refine v_rng fun w5 => ?_
    have p6 : i3 (g 96 x7.toNat) := rI w5 (q := x7.toNat) (al 96 rfl hn) (wk96 dy) rfl rfl
    refine v_iload 121 5 rfl rfl ?_
    refine v_iload_n 122 3 rfl rfl rfl ?_
    refine v_iconst 123 rfl ?_
    refine v_isub 124 rfl ?_
    refine v_iload 125 7 rfl rfl ?_
    refine v_isub 126 rfl ?_
    refine v_ishr 127 rfl ?_
    refine v_iconst 128 rfl ?_
    refine v_iand 129 rfl ?_
    refine v_iconst 130 rfl ?_
    refine v_icmp_ne 131 rfl (tgt := 247) rfl (and3_r _ _) (by decide) (fun q7 => ?_) (fun q7 => ?_)
    · have h := h.1 q7
      refine v_iconst 134 rfl ?_
      have c8 := h.1
      have h := h.2
      refine v_zast (N := 60) 135 rfl (al 76 rfl hn) (wk76 dy) (wn76 dy) (by decide) c8 (Or.inl rfl) (by decide) ?_
      refine v_iinc 136 7 [1, 2, 3, 4, 5, 6, 7, 0] rfl rfl (by decide) rfl ?_
      refine v_goto 137 rfl (tgt := 211) rfl ?_
      exact h
    · have h := h.2 q7
      refine v_iconst 132 rfl ?_
      refine v_goto 133 rfl (tgt := 248) rfl ?_
      have c9 := h.1
      have h := h.2
      refine v_zast (N := 60) 135 rfl (al 76 rfl hn) (wk76 dy) (wn76 dy) (by decide) c9 (Or.inr rfl) (by decide) ?_
      refine v_iinc 136 7 [1, 2, 3, 4, 5, 6, 7, 0] rfl rfl (by decide) rfl ?_
      refine v_goto 137 rfl (tgt := 211) rfl ?_
      exact h
set_option maxHeartbeats 8000000 in
set_option maxRecDepth 4000 in
theorem bX12_fewest_259 {d n : Nat} {dy : Nat → Shp} {g : Hp} {P : Pst} {x1 : Int} {x2 : Int} {x3 : Int} {x4 : Int} {x5 : Int} {x6 : Int} {x7 : Int} (hn : 100 ≤ n) (h : Runs miX12_wrongRods d [.ref 53] n (W0 dy) g (fun v n' S' g' => V miX12_fewest (d + 1) 263 [(0, .ref 53), (1, I_ x1), (2, I_ x2), (3, I_ x3), (4, I_ x4), (5, I_ x5), (6, I_ x6), (7, I_ x7)] (v.toList ++ []) n' S' g' 0 0 P)) : V miX12_fewest (d + 1) 259 [(0, .ref 53), (1, I_ x1), (2, I_ x2), (3, I_ x3), (4, I_ x4), (5, I_ x5), (6, I_ x6), (7, I_ x7)] [] n (W0 dy) g 0 0 P := by
  refine v_aload_n 140 0 rfl rfl rfl ?_
  refine v_callV (st := []) [] 141 rfl lv12_280_fewest_11 (al 53 rfl hn) (wk53 dy) (by decide) rfl (Nat.le_refl _) (Nat.le_refl _) ?_
  exact h
set_option maxHeartbeats 8000000 in
set_option maxRecDepth 4000 in
theorem bX12_fewest_263 {d n : Nat} {dy : Nat → Shp} {g : Hp} {P : Pst} {x1 : Int} {x2 : Int} {x3 : Int} {x4 : Int} {x5 : Int} {x6 : Int} {x7 : Int} {xs0 : Int} (hn : 100 ≤ n) (h : (i3 xs0) ∧ ((xs0 ≠ 0) → V miX12_fewest (d + 1) 172 [(0, .ref 53), (1, I_ x1), (2, I_ x2), (3, I_ x3), (4, I_ x4), (5, I_ (x5 + (-1)))] [] n (W0 dy) g 0 0 P) ∧ ((xs0 = 0) → V miX12_fewest (d + 1) 172 [(0, .ref 53), (1, I_ x1), (2, I_ x2), (3, I_ x3), (4, I_ x5), (5, I_ (x5 + (-1)))] [] n (W0 dy) g 0 0 P)) : V miX12_fewest (d + 1) 263 [(0, .ref 53), (1, I_ x1), (2, I_ x2), (3, I_ x3), (4, I_ x4), (5, I_ x5), (6, I_ x6), (7, I_ x7)] [I_ xs0] n (W0 dy) g 0 0 P := by
  have c1 := h.1
  have h := h.2
  refine v_if_ne 142 rfl (tgt := 270) rfl c1 (fun q2 => ?_) (fun q2 => ?_)
  · have h := h.1 q2
    refine v_iinc 145 5 [1, 2, 3, 4, 5, 0, 6, 7] rfl rfl (by decide) rfl ?_
    refine v_goto 146 rfl (tgt := 172) rfl ?_
    refine v_loc [0, 1, 2, 3, 4, 5] rfl ?_
    exact h
  · have h := h.2 q2
    refine v_iload 143 5 rfl rfl ?_
    refine v_istore 144 [1, 2, 3, 4, 0, 5, 6, 7] rfl (by decide) rfl ?_
    refine v_iinc 145 5 [1, 2, 3, 4, 5, 0, 6, 7] rfl rfl (by decide) rfl ?_
    refine v_goto 146 rfl (tgt := 172) rfl ?_
    refine v_loc [0, 1, 2, 3, 4, 5] rfl ?_
    exact h
set_option maxHeartbeats 8000000 in
set_option maxRecDepth 4000 in
theorem bX12_fewest_287 {d n : Nat} {dy : Nat → Shp} {g : Hp} {P : Pst} {x1 : Int} {x2 : Int} {x3 : Int} {x4 : Int} {x5 : Int} {xs0 : Int} (hn : 100 ≤ n) (h : P (some (I_ xs0)) n (W0 dy) g) : V miX12_fewest (d + 1) 287 [(0, .ref 53), (1, I_ x1), (2, I_ x2), (3, I_ x3), (4, I_ x4), (5, I_ x5)] [I_ xs0] n (W0 dy) g 0 0 P := by
  exact v_ret (v := some (I_ xs0)) 152 rfl (Nat.zero_le _) (Nat.zero_le _) trivial rfl h
set_option maxHeartbeats 8000000 in
set_option maxRecDepth 4000 in
theorem bX12_fewest_296 {d n : Nat} {dy : Nat → Shp} {g : Hp} {P : Pst} {x1 : Int} {x2 : Int} {x3 : Int} {x4 : Int} {x5 : Int} (hn : 100 ≤ n) (h : (i3 x5) ∧ (i3 x3) ∧ ((x3 ≤ x5) → P (some (I_ (g 53 26))) n (W0 dy) g) ∧ ((x5 < x3) → (((and3 (shr3 x4 ((x3 - 1) - x5)) 1) ≠ 0) → (0 ≤ x5 ∧ x5 < 60) ∧ (0 ≤ g 53 26 ∧ g 53 26 < 14) ∧ (i3 ((g 53 26) + 1)) ∧ V miX12_fewest (d + 1) 296 [(0, .ref 53), (1, I_ x1), (2, I_ x2), (3, I_ x3), (4, I_ x4), (5, I_ (x5 + 1))] [] n (W0 dy) (up2 (up2 g 77 ((g 53 26).toNat) (g 96 x5.toNat)) 53 26 ((g 53 26) + 1)) 0 0 P) ∧ (((and3 (shr3 x4 ((x3 - 1) - x5)) 1) = 0) → V miX12_fewest (d + 1) 296 [(0, .ref 53), (1, I_ x1), (2, I_ x2), (3, I_ x3), (4, I_ x4), (5, I_ (x5 + 1))] [] n (W0 dy) g 0 0 P))) : V miX12_fewest (d + 1) 296 [(0, .ref 53), (1, I_ x1), (2, I_ x2), (3, I_ x3), (4, I_ x4), (5, I_ x5)] [] n (W0 dy) g 0 0 P := by
  refine v_iload 158 5 rfl rfl ?_
  refine v_iload_n 159 3 rfl rfl rfl ?_
  have c1 := h.1
  have h := h.2
  have c2 := h.1
  have h := h.2
  refine v_icmp_ge 160 rfl (tgt := 351) rfl c1 c2 (fun q3 => ?_) (fun q3 => ?_)
  · have h := h.1 q3
    refine v_aload_n 189 0 rfl rfl rfl ?_
    refine v_gI 190 rfl fl12_372_11.r (al 53 rfl hn) (wk53 dy) (by decide) rfl (wc53_26 dy) (x := g 53 26) rfl ?_
    refine v_rng fun w4 => ?_
    have p5 : i3 (g 53 26) := rI w4 (q := 26) (al 53 rfl hn) (wk53 dy) rfl rfl
    exact v_ret (v := some (I_ (g 53 26))) 191 rfl (Nat.zero_le _) (Nat.zero_le _) trivial rfl h
  · have h := h.2 q3
    refine v_iload 161 4 rfl rfl ?_
    refine v_iload_n 162 3 rfl rfl rfl ?_
    refine v_iconst 163 rfl ?_
    refine v_isub 164 rfl ?_
    refine v_iload 165 5 rfl rfl ?_
    refine v_isub 166 rfl ?_
    refine v_ishr 167 rfl ?_
    refine v_iconst 168 rfl ?_
    refine v_iand 169 rfl ?_
    refine v_if_ne 170 rfl (tgt := 319) rfl (and3_r _ _) (fun q6 => ?_) (fun q6 => ?_)
    · have h := h.1 q6
      refine v_aload_n 172 0 rfl rfl rfl ?_
      refine v_gK 173 rfl fl12_81_11.r (al 53 rfl hn) (wk53 dy) (by decide) rfl (r := 77) (wc53_27 dy) ?_
      refine v_aload_n 174 0 rfl rfl rfl ?_
      refine v_gI 175 rfl fl12_372_11.r (al 53 rfl hn) (wk53 dy) (by decide) rfl (wc53_26 dy) (x := g 53 26) rfl ?_
      refine v_rng fun w7 => ?_
      have p8 : i3 (g 53 26) := rI w7 (q := 26) (al 53 rfl hn) (wk53 dy) rfl rfl
      refine v_aload_n 176 0 rfl rfl rfl ?_
      refine v_gK 177 rfl fl12_139_11.r (al 53 rfl hn) (wk53 dy) (by decide) rfl (r := 96) (wc53_54 dy) ?_
      refine v_iload 178 5 rfl rfl ?_
      have c9 := h.1
      have h := h.2
      refine v_ia (N := 60) 179 rfl (al 96 rfl hn) (wk96 dy) (wn96 dy) (by decide) c9 (y := g 96 x5.toNat) rfl ?_
      refine v_rng fun w10 => ?_
      have p11 : i3 (g 96 x5.toNat) := rI w10 (q := x5.toNat) (al 96 rfl hn) (wk96 dy) rfl rfl
      have c12 := h.1
      have h := h.2
      refine v_iast (N := 14) 180 rfl (al 77 rfl hn) (wk77 dy) (wn77 dy) (by decide) c12 p11 ?_
      refine v_aload_n 181 0 rfl rfl rfl ?_
      refine v_dup 182 rfl (by intro h; cases h) ?_
      refine v_gI 183 rfl fl12_372_11.r (al 53 rfl hn) (wk53 dy) (by decide) rfl (wc53_26 dy) (x := g 53 26) rfl ?_
      refine v_rng fun w13 => ?_
      have p14 : i3 (g 53 26) := rI w13 (q := 26) (al 53 rfl hn) (wk53 dy) rfl rfl
      refine v_iconst 184 rfl ?_
      refine v_iadd 185 rfl ?_
      have c15 := h.1
      have h := h.2
      refine v_putI 186 rfl fl12_372_11 (al 53 rfl hn) (wk53 dy) (by decide) rfl (wc53_26 dy) c15 ?_
      refine v_iinc 187 5 [1, 2, 3, 4, 5, 0] rfl rfl (by decide) rfl ?_
      refine v_goto 188 rfl (tgt := 296) rfl ?_
      exact h
    · have h := h.2 q6
      refine v_goto 171 rfl (tgt := 345) rfl ?_
      refine v_iinc 187 5 [1, 2, 3, 4, 5, 0] rfl rfl (by decide) rfl ?_
      refine v_goto 188 rfl (tgt := 296) rfl ?_
      exact h
theorem wX12_fewest {d n : Nat} {dy : Nat → Shp} {g : Hp} {P : Pst} {x1 : Int} {x2 : Int} (hn : 100 ≤ n) (h : Runs miX12_isPart d [.ref 53, I_ x1] n (W0 dy) (up2 (up2 g 53 1 0) 53 0 0) (fun v n' S' g' => V miX12_fewest (d + 1) 15 [(0, .ref 53), (1, I_ x1), (2, I_ x2)] (v.toList ++ []) n' S' g' 0 0 P)) : Runs miX12_fewest (d + 1) [.ref 53, I_ x1, I_ x2] n (W0 dy) g P := Runs.of rfl rfl deX12_fewest (Nat.le_of_ble_eq_true rfl) (bX12_fewest_0 hn h)
set_option maxHeartbeats 8000000 in
set_option maxRecDepth 4000 in
theorem bX12_suspect_0 {d n : Nat} {dy : Nat → Shp} {g : Hp} {P : Pst} {x1 : Int} (hn : 100 ≤ n) (h : (i3 x1) ∧ ((x1 < 0) → P (some (I_ ((-1)))) n (W0 dy) (up2 g 53 1 0)) ∧ ((0 ≤ x1) → ((x1 < (g 53 26)) → (0 ≤ x1 ∧ x1 < 14) ∧ P (some (I_ (g 77 x1.toNat))) n (W0 dy) (up2 g 53 1 0)) ∧ (((g 53 26) ≤ x1) → P (some (I_ ((-1)))) n (W0 dy) (up2 g 53 1 0)))) : V miX12_suspect d 0 [(0, .ref 53), (1, I_ x1)] [] n (W0 dy) g 0 0 P := by
  refine v_aload_n 0 0 rfl rfl rfl ?_
  refine v_iconst 1 rfl ?_
  refine v_putI 2 rfl fl12_148_11 (al 53 rfl hn) (wk53 dy) (by decide) rfl (wc53_1 dy) (by decide) ?_
  refine v_iload_n 3 1 rfl rfl rfl ?_
  have c1 := h.1
  have h := h.2
  refine v_if_lt 4 rfl (tgt := 17) rfl c1 (fun q2 => ?_) (fun q2 => ?_)
  · have h := h.1 q2
    refine v_iconst 9 rfl ?_
    refine v_goto 10 rfl (tgt := 27) rfl ?_
    exact v_ret (v := some (I_ ((-1)))) 15 rfl (Nat.zero_le _) (Nat.zero_le _) trivial rfl h
  · have h := h.2 q2
    refine v_iload_n 5 1 rfl rfl rfl ?_
    refine v_aload_n 6 0 rfl rfl rfl ?_
    refine v_gI 7 rfl fl12_372_11.r (al 53 rfl hn) (wk53 dy) (by decide) rfl (wc53_26 dy) (x := g 53 26) rfl ?_
    refine v_rng fun w3 => ?_
    have p4 : i3 (g 53 26) := rI w3 (q := 26) (al 53 rfl hn) (wk53 dy) rfl rfl
    refine v_icmp_lt 8 rfl (tgt := 21) rfl c1 p4 (fun q5 => ?_) (fun q5 => ?_)
    · have h := h.1 q5
      refine v_aload_n 11 0 rfl rfl rfl ?_
      refine v_gK 12 rfl fl12_81_11.r (al 53 rfl hn) (wk53 dy) (by decide) rfl (r := 77) (wc53_27 dy) ?_
      refine v_iload_n 13 1 rfl rfl rfl ?_
      have c6 := h.1
      have h := h.2
      refine v_ia (N := 14) 14 rfl (al 77 rfl hn) (wk77 dy) (wn77 dy) (by decide) c6 (y := g 77 x1.toNat) rfl ?_
      refine v_rng fun w7 => ?_
      have p8 : i3 (g 77 x1.toNat) := rI w7 (q := x1.toNat) (al 77 rfl hn) (wk77 dy) rfl rfl
      exact v_ret (v := some (I_ (g 77 x1.toNat))) 15 rfl (Nat.zero_le _) (Nat.zero_le _) trivial rfl h
    · have h := h.2 q5
      refine v_iconst 9 rfl ?_
      refine v_goto 10 rfl (tgt := 27) rfl ?_
      exact v_ret (v := some (I_ ((-1)))) 15 rfl (Nat.zero_le _) (Nat.zero_le _) trivial rfl h
theorem wX12_suspect {d n : Nat} {dy : Nat → Shp} {g : Hp} {P : Pst} {x1 : Int} (hn : 100 ≤ n) (h : (i3 x1) ∧ ((x1 < 0) → P (some (I_ ((-1)))) n (W0 dy) (up2 g 53 1 0)) ∧ ((0 ≤ x1) → ((x1 < (g 53 26)) → (0 ≤ x1 ∧ x1 < 14) ∧ P (some (I_ (g 77 x1.toNat))) n (W0 dy) (up2 g 53 1 0)) ∧ (((g 53 26) ≤ x1) → P (some (I_ ((-1)))) n (W0 dy) (up2 g 53 1 0)))) : Runs miX12_suspect d [.ref 53, I_ x1] n (W0 dy) g P := Runs.of rfl rfl deX12_suspect (Nat.le_of_ble_eq_true rfl) (bX12_suspect_0 hn h)
theorem lv12_247_cut__11 : LkV miX12_cut_ miX12_takeOff 247 1 11 := ⟨⟨⟨tbG_in (List.mem_append_right _ (List.mem_of_getElem? (i := 1444) (by decide +kernel))) rfl, tbG_in (List.mem_append_right _ (List.mem_of_getElem? (i := 9) (by decide +kernel))) rfl, tbG_in (List.mem_append_right _ (List.mem_of_getElem? (i := 1441) (by decide +kernel))) rfl⟩, ⟨by decide +kernel, by decide +kernel, by decide +kernel⟩, by decide⟩, tbG_in (List.mem_append_right _ (List.mem_of_getElem? (i := 1443) (by decide +kernel))) rfl, RX12, TX12, 58, rfl, tbG_in (List.mem_append_left _ (List.mem_of_getElem? (i := 62) (by decide +kernel))) rfl⟩
set_option maxHeartbeats 8000000 in
set_option maxRecDepth 4000 in
theorem bX12_cut__0 {d n : Nat} {dy : Nat → Shp} {g : Hp} {P : Pst}  (hn : 100 ≤ n) (h : V miX12_cut_ (d + 1) 14 [(0, .ref 53), (1, I_ 0), (2, I_ 0)] [] n (W0 dy) (up2 (up2 g 53 1 0) 53 0 0) 0 0 P) : V miX12_cut_ (d + 1) 0 [(0, .ref 53)] [] n (W0 dy) g 0 0 P := by
  refine v_aload_n 0 0 rfl rfl rfl ?_
  refine v_iconst 1 rfl ?_
  refine v_putI 2 rfl fl12_148_11 (al 53 rfl hn) (wk53 dy) (by decide) rfl (wc53_1 dy) (by decide) ?_
  refine v_aload_n 3 0 rfl rfl rfl ?_
  refine v_iconst 4 rfl ?_
  refine v_putI 5 rfl fl12_152_11 (al 53 rfl hn) (wk53 dy) (by decide) rfl (wc53_0 dy) (by decide) ?_
  refine v_iconst 6 rfl ?_
  refine v_istore_n 7 [1, 0] rfl rfl (by decide) rfl ?_
  refine v_iconst 8 rfl ?_
  refine v_istore_n 9 [1, 2, 0] rfl rfl (by decide) rfl ?_
  exact h
set_option maxHeartbeats 8000000 in
set_option maxRecDepth 4000 in
theorem bX12_cut__14 {d n : Nat} {dy : Nat → Shp} {g : Hp} {P : Pst} {x1 : Int} {x2 : Int} (hn : 100 ≤ n) (h : (i3 x2) ∧ (((g 53 26) ≤ x2) → P (some (I_ x1)) n (W0 dy) g) ∧ ((x2 < (g 53 26)) → (0 ≤ x2 ∧ x2 < 14) ∧ (0 ≤ g 77 x2.toNat ∧ g 77 x2.toNat < 60) ∧ ((0 ≤ (g 60 ((g 77 x2.toNat).toNat))) → Runs miX12_takeOff d [.ref 53, I_ (g 77 x2.toNat)] n (W0 dy) g (fun v n' S' g' => V miX12_cut_ (d + 1) 49 [(0, .ref 53), (1, I_ x1), (2, I_ x2)] (v.toList ++ []) n' S' g' 0 0 P)) ∧ (((g 60 ((g 77 x2.toNat).toNat)) < 0) → V miX12_cut_ (d + 1) 14 [(0, .ref 53), (1, I_ x1), (2, I_ (x2 + 1))] [] n (W0 dy) g 0 0 P))) : V miX12_cut_ (d + 1) 14 [(0, .ref 53), (1, I_ x1), (2, I_ x2)] [] n (W0 dy) g 0 0 P := by
  refine v_iload_n 10 2 rfl rfl rfl ?_
  refine v_aload_n 11 0 rfl rfl rfl ?_
  refine v_gI 12 rfl fl12_372_11.r (al 53 rfl hn) (wk53 dy) (by decide) rfl (wc53_26 dy) (x := g 53 26) rfl ?_
  refine v_rng fun w1 => ?_
  have p2 : i3 (g 53 26) := rI w1 (q := 26) (al 53 rfl hn) (wk53 dy) rfl rfl
  have c3 := h.1
  have h := h.2
  refine v_icmp_ge 13 rfl (tgt := 58) rfl c3 p2 (fun q4 => ?_) (fun q4 => ?_)
  · have h := h.1 q4
    refine v_iload_n 32 1 rfl rfl rfl ?_
    exact v_ret (v := some (I_ x1)) 33 rfl (Nat.zero_le _) (Nat.zero_le _) trivial rfl h
  · have h := h.2 q4
    refine v_aload_n 14 0 rfl rfl rfl ?_
    refine v_gK 15 rfl fl12_29_11.r (al 53 rfl hn) (wk53 dy) (by decide) rfl (r := 60) (wc53_9 dy) ?_
    refine v_aload_n 16 0 rfl rfl rfl ?_
    refine v_gK 17 rfl fl12_81_11.r (al 53 rfl hn) (wk53 dy) (by decide) rfl (r := 77) (wc53_27 dy) ?_
    refine v_iload_n 18 2 rfl rfl rfl ?_
    have c5 := h.1
    have h := h.2
    refine v_ia (N := 14) 19 rfl (al 77 rfl hn) (wk77 dy) (wn77 dy) (by decide) c5 (y := g 77 x2.toNat) rfl ?_
    refine v_rng fun w6 => ?_
    have p7 : i3 (g 77 x2.toNat) := rI w6 (q := x2.toNat) (al 77 rfl hn) (wk77 dy) rfl rfl
    have c8 := h.1
    have h := h.2
    refine v_ia (N := 60) 20 rfl (al 60 rfl hn) (wk60 dy) (wn60 dy) (by decide) c8 (y := g 60 ((g 77 x2.toNat).toNat)) rfl ?_
    refine v_rng fun w9 => ?_
    have p10 : i3 (g 60 ((g 77 x2.toNat).toNat)) := rI w9 (q := ((g 77 x2.toNat).toNat)) (al 60 rfl hn) (wk60 dy) rfl rfl
    refine v_if_ge 21 rfl (tgt := 39) rfl p10 (fun q11 => ?_) (fun q11 => ?_)
    · have h := h.1 q11
      refine v_aload_n 23 0 rfl rfl rfl ?_
      refine v_aload_n 24 0 rfl rfl rfl ?_
      refine v_gK 25 rfl fl12_81_11.r (al 53 rfl hn) (wk53 dy) (by decide) rfl (r := 77) (wc53_27 dy) ?_
      refine v_iload_n 26 2 rfl rfl rfl ?_
      refine v_ia (N := 14) 27 rfl (al 77 rfl hn) (wk77 dy) (wn77 dy) (by decide) c5 (y := g 77 x2.toNat) rfl ?_
      refine v_rng fun w12 => ?_
      have p13 : i3 (g 77 x2.toNat) := rI w12 (q := x2.toNat) (al 77 rfl hn) (wk77 dy) rfl rfl
      refine v_callV (st := []) [I_ (g 77 x2.toNat)] 28 rfl lv12_247_cut__11 (al 53 rfl hn) (wk53 dy) (by decide) rfl (Nat.le_refl _) (Nat.le_refl _) ?_
      exact h
    · have h := h.2 q11
      refine v_goto 22 rfl (tgt := 52) rfl ?_
      refine v_iinc 30 2 [1, 2, 0] rfl rfl (by decide) rfl ?_
      refine v_goto 31 rfl (tgt := 14) rfl ?_
      exact h
set_option maxHeartbeats 8000000 in
set_option maxRecDepth 4000 in
theorem bX12_cut__49 {d n : Nat} {dy : Nat → Shp} {g : Hp} {P : Pst} {x1 : Int} {x2 : Int} (hn : 100 ≤ n) (h : V miX12_cut_ (d + 1) 14 [(0, .ref 53), (1, I_ (x1 + 1)), (2, I_ (x2 + 1))] [] n (W0 dy) g 0 0 P) : V miX12_cut_ (d + 1) 49 [(0, .ref 53), (1, I_ x1), (2, I_ x2)] [] n (W0 dy) g 0 0 P := by
  refine v_iinc 29 1 [1, 0, 2] rfl rfl (by decide) rfl ?_
  refine v_iinc 30 2 [1, 2, 0] rfl rfl (by decide) rfl ?_
  refine v_goto 31 rfl (tgt := 14) rfl ?_
  exact h
theorem wX12_cut_ {d n : Nat} {dy : Nat → Shp} {g : Hp} {P : Pst}  (hn : 100 ≤ n) (h : V miX12_cut_ (d + 1) 14 [(0, .ref 53), (1, I_ 0), (2, I_ 0)] [] n (W0 dy) (up2 (up2 g 53 1 0) 53 0 0) 0 0 P) : Runs miX12_cut_ (d + 1) [.ref 53] n (W0 dy) g P := Runs.of rfl rfl deX12_cut_ (Nat.le_of_ble_eq_true rfl) (bX12_cut__0 hn h)
theorem fl12_68_11 : FL RX12 68 11 22 true (.array .int) := ⟨RX12, TX12, 58, "MobileMakerModel", rfl, rfl, by decide, kf11, tbG_in (List.mem_append_right _ (List.mem_of_getElem? (i := 1149) (by decide +kernel))) rfl, Or.inl rfl, rfl, by decide +kernel, ⟨tyX12, tyX12_ok⟩, nmX12, fun _ => rfl⟩
set_option maxHeartbeats 8000000 in
set_option maxRecDepth 4000 in
theorem bX12_isSide_0 {d n : Nat} {dy : Nat → Shp} {g : Hp} {P : Pst} {x1 : Int} {x2 : Int} (hn : 100 ≤ n) (h : (i3 x1) ∧ ((x1 < 0) → ((0 ≤ x1) → P (some (I_ 0)) n (W0 dy) g) ∧ ((x1 < 0) → (i3 x2) ∧ ((0 ≤ x2) → P (some (I_ 0)) n (W0 dy) g) ∧ ((x2 < 0) → P (some (I_ 1)) n (W0 dy) g))) ∧ ((0 ≤ x1) → (i3 x2) ∧ ((0 ≤ x2) → (0 ≤ x1 ∧ x1 < 60) ∧ (0 ≤ x2 ∧ x2 < 60) ∧ (((g 73 x1.toNat) ≠ (g 73 x2.toNat)) → P (some (I_ 0)) n (W0 dy) g) ∧ (((g 73 x1.toNat) = (g 73 x2.toNat)) → (((g 62 x1.toNat) ≠ (g 62 x2.toNat)) → P (some (I_ 0)) n (W0 dy) g) ∧ (((g 62 x1.toNat) = (g 62 x2.toNat)) → P (some (I_ 1)) n (W0 dy) g))) ∧ ((x2 < 0) → ((0 ≤ x1) → P (some (I_ 0)) n (W0 dy) g) ∧ ((x1 < 0) → ((0 ≤ x2) → P (some (I_ 0)) n (W0 dy) g) ∧ ((x2 < 0) → P (some (I_ 1)) n (W0 dy) g))))) : V miX12_isSide d 0 [(0, .ref 53), (1, I_ x1), (2, I_ x2)] [] n (W0 dy) g 0 0 P := by
  refine v_iload_n 0 1 rfl rfl rfl ?_
  have c1 := h.1
  have h := h.2
  refine v_if_lt 1 rfl (tgt := 8) rfl c1 (fun q2 => ?_) (fun q2 => ?_)
  · have h := h.1 q2
    refine v_iload_n 4 1 rfl rfl rfl ?_
    refine v_if_ge 5 rfl (tgt := 20) rfl c1 (fun q3 => ?_) (fun q3 => ?_)
    · have h := h.1 q3
      refine v_iconst 10 rfl ?_
      exact v_ret (v := some (I_ 0)) 11 rfl (Nat.zero_le _) (Nat.zero_le _) (Or.inl rfl) rfl h
    · have h := h.2 q3
      refine v_iload_n 6 2 rfl rfl rfl ?_
      have c4 := h.1
      have h := h.2
      refine v_if_ge 7 rfl (tgt := 20) rfl c4 (fun q5 => ?_) (fun q5 => ?_)
      · have h := h.1 q5
        refine v_iconst 10 rfl ?_
        exact v_ret (v := some (I_ 0)) 11 rfl (Nat.zero_le _) (Nat.zero_le _) (Or.inl rfl) rfl h
      · have h := h.2 q5
        refine v_iconst 8 rfl ?_
        refine v_goto 9 rfl (tgt := 21) rfl ?_
        exact v_ret (v := some (I_ 1)) 11 rfl (Nat.zero_le _) (Nat.zero_le _) (Or.inr rfl) rfl h
  · have h := h.2 q2
    refine v_iload_n 2 2 rfl rfl rfl ?_
    have c6 := h.1
    have h := h.2
    refine v_if_ge 3 rfl (tgt := 22) rfl c6 (fun q7 => ?_) (fun q7 => ?_)
    · have h := h.1 q7
      refine v_aload_n 12 0 rfl rfl rfl ?_
      refine v_gK 13 rfl fl12_68_11.r (al 53 rfl hn) (wk53 dy) (by decide) rfl (r := 73) (wc53_22 dy) ?_
      refine v_iload_n 14 1 rfl rfl rfl ?_
      have c8 := h.1
      have h := h.2
      refine v_ia (N := 60) 15 rfl (al 73 rfl hn) (wk73 dy) (wn73 dy) (by decide) c8 (y := g 73 x1.toNat) rfl ?_
      refine v_rng fun w9 => ?_
      have p10 : i3 (g 73 x1.toNat) := rI w9 (q := x1.toNat) (al 73 rfl hn) (wk73 dy) rfl rfl
      refine v_aload_n 16 0 rfl rfl rfl ?_
      refine v_gK 17 rfl fl12_68_11.r (al 53 rfl hn) (wk53 dy) (by decide) rfl (r := 73) (wc53_22 dy) ?_
      refine v_iload_n 18 2 rfl rfl rfl ?_
      have c11 := h.1
      have h := h.2
      refine v_ia (N := 60) 19 rfl (al 73 rfl hn) (wk73 dy) (wn73 dy) (by decide) c11 (y := g 73 x2.toNat) rfl ?_
      refine v_rng fun w12 => ?_
      have p13 : i3 (g 73 x2.toNat) := rI w12 (q := x2.toNat) (al 73 rfl hn) (wk73 dy) rfl rfl
      refine v_icmp_ne 20 rfl (tgt := 56) rfl p10 p13 (fun q14 => ?_) (fun q14 => ?_)
      · have h := h.1 q14
        refine v_iconst 32 rfl ?_
        exact v_ret (v := some (I_ 0)) 33 rfl (Nat.zero_le _) (Nat.zero_le _) (Or.inl rfl) rfl h
      · have h := h.2 q14
        refine v_aload_n 21 0 rfl rfl rfl ?_
        refine v_gK 22 rfl fl12_35_11.r (al 53 rfl hn) (wk53 dy) (by decide) rfl (r := 62) (wc53_11 dy) ?_
        refine v_iload_n 23 1 rfl rfl rfl ?_
        refine v_ia (N := 60) 24 rfl (al 62 rfl hn) (wk62 dy) (wn62 dy) (by decide) c8 (y := g 62 x1.toNat) rfl ?_
        refine v_rng fun w15 => ?_
        have p16 : i3 (g 62 x1.toNat) := rI w15 (q := x1.toNat) (al 62 rfl hn) (wk62 dy) rfl rfl
        refine v_aload_n 25 0 rfl rfl rfl ?_
        refine v_gK 26 rfl fl12_35_11.r (al 53 rfl hn) (wk53 dy) (by decide) rfl (r := 62) (wc53_11 dy) ?_
        refine v_iload_n 27 2 rfl rfl rfl ?_
        refine v_ia (N := 60) 28 rfl (al 62 rfl hn) (wk62 dy) (wn62 dy) (by decide) c11 (y := g 62 x2.toNat) rfl ?_
        refine v_rng fun w17 => ?_
        have p18 : i3 (g 62 x2.toNat) := rI w17 (q := x2.toNat) (al 62 rfl hn) (wk62 dy) rfl rfl
        refine v_icmp_ne 29 rfl (tgt := 56) rfl p16 p18 (fun q19 => ?_) (fun q19 => ?_)
        · have h := h.1 q19
          refine v_iconst 32 rfl ?_
          exact v_ret (v := some (I_ 0)) 33 rfl (Nat.zero_le _) (Nat.zero_le _) (Or.inl rfl) rfl h
        · have h := h.2 q19
          refine v_iconst 30 rfl ?_
          refine v_goto 31 rfl (tgt := 57) rfl ?_
          exact v_ret (v := some (I_ 1)) 33 rfl (Nat.zero_le _) (Nat.zero_le _) (Or.inr rfl) rfl h
    · have h := h.2 q7
      refine v_iload_n 4 1 rfl rfl rfl ?_
      refine v_if_ge 5 rfl (tgt := 20) rfl c1 (fun q20 => ?_) (fun q20 => ?_)
      · have h := h.1 q20
        refine v_iconst 10 rfl ?_
        exact v_ret (v := some (I_ 0)) 11 rfl (Nat.zero_le _) (Nat.zero_le _) (Or.inl rfl) rfl h
      · have h := h.2 q20
        refine v_iload_n 6 2 rfl rfl rfl ?_
        refine v_if_ge 7 rfl (tgt := 20) rfl c6 (fun q21 => ?_) (fun q21 => ?_)
        · have h := h.1 q21
          refine v_iconst 10 rfl ?_
          exact v_ret (v := some (I_ 0)) 11 rfl (Nat.zero_le _) (Nat.zero_le _) (Or.inl rfl) rfl h
        · have h := h.2 q21
          refine v_iconst 8 rfl ?_
          refine v_goto 9 rfl (tgt := 21) rfl ?_
          exact v_ret (v := some (I_ 1)) 11 rfl (Nat.zero_le _) (Nat.zero_le _) (Or.inr rfl) rfl h
theorem wX12_isSide {d n : Nat} {dy : Nat → Shp} {g : Hp} {P : Pst} {x1 : Int} {x2 : Int} (hn : 100 ≤ n) (h : (i3 x1) ∧ ((x1 < 0) → ((0 ≤ x1) → P (some (I_ 0)) n (W0 dy) g) ∧ ((x1 < 0) → (i3 x2) ∧ ((0 ≤ x2) → P (some (I_ 0)) n (W0 dy) g) ∧ ((x2 < 0) → P (some (I_ 1)) n (W0 dy) g))) ∧ ((0 ≤ x1) → (i3 x2) ∧ ((0 ≤ x2) → (0 ≤ x1 ∧ x1 < 60) ∧ (0 ≤ x2 ∧ x2 < 60) ∧ (((g 73 x1.toNat) ≠ (g 73 x2.toNat)) → P (some (I_ 0)) n (W0 dy) g) ∧ (((g 73 x1.toNat) = (g 73 x2.toNat)) → (((g 62 x1.toNat) ≠ (g 62 x2.toNat)) → P (some (I_ 0)) n (W0 dy) g) ∧ (((g 62 x1.toNat) = (g 62 x2.toNat)) → P (some (I_ 1)) n (W0 dy) g))) ∧ ((x2 < 0) → ((0 ≤ x1) → P (some (I_ 0)) n (W0 dy) g) ∧ ((x1 < 0) → ((0 ≤ x2) → P (some (I_ 0)) n (W0 dy) g) ∧ ((x2 < 0) → P (some (I_ 1)) n (W0 dy) g))))) : Runs miX12_isSide d [.ref 53, I_ x1, I_ x2] n (W0 dy) g P := Runs.of rfl rfl deX12_isSide (Nat.le_of_ble_eq_true rfl) (bX12_isSide_0 hn h)
theorem lv12_237_isLike_11 : LkV miX12_isLike miX12_isRod 237 1 11 := ⟨⟨⟨tbG_in (List.mem_append_right _ (List.mem_of_getElem? (i := 1428) (by decide +kernel))) rfl, tbG_in (List.mem_append_right _ (List.mem_of_getElem? (i := 9) (by decide +kernel))) rfl, tbG_in (List.mem_append_right _ (List.mem_of_getElem? (i := 1425) (by decide +kernel))) rfl⟩, ⟨by decide +kernel, by decide +kernel, by decide +kernel⟩, by decide⟩, tbG_in (List.mem_append_right _ (List.mem_of_getElem? (i := 1427) (by decide +kernel))) rfl, RX12, TX12, 58, rfl, tbG_in (List.mem_append_left _ (List.mem_of_getElem? (i := 60) (by decide +kernel))) rfl⟩
theorem lv12_375_isLike_11 : LkV miX12_isLike miX12_isSide 375 2 11 := ⟨⟨⟨tbG_in (List.mem_append_right _ (List.mem_of_getElem? (i := 1652) (by decide +kernel))) rfl, tbG_in (List.mem_append_right _ (List.mem_of_getElem? (i := 9) (by decide +kernel))) rfl, tbG_in (List.mem_append_right _ (List.mem_of_getElem? (i := 1649) (by decide +kernel))) rfl⟩, ⟨by decide +kernel, by decide +kernel, by decide +kernel⟩, by decide⟩, tbG_in (List.mem_append_right _ (List.mem_of_getElem? (i := 1651) (by decide +kernel))) rfl, RX12, TX12, 58, rfl, tbG_in (List.mem_append_left _ (List.mem_of_getElem? (i := 93) (by decide +kernel))) rfl⟩
set_option maxHeartbeats 8000000 in
set_option maxRecDepth 4000 in
theorem bX12_isLike_0 {d n : Nat} {dy : Nat → Shp} {g : Hp} {P : Pst} {x1 : Int} {x2 : Int} (hn : 100 ≤ n) (h : (0 ≤ x1 ∧ x1 < 60) ∧ (0 ≤ x2 ∧ x2 < 60) ∧ (((g 57 x1.toNat) ≠ (g 57 x2.toNat)) → P (some (I_ 0)) n (W0 dy) g) ∧ (((g 57 x1.toNat) = (g 57 x2.toNat)) → (((g 63 x1.toNat) = (g 63 x2.toNat)) → Runs miX12_isRod d [.ref 53, I_ x1] n (W0 dy) g (fun v n' S' g' => V miX12_isLike (d + 1) 38 [(0, .ref 53), (1, I_ x1), (2, I_ x2)] (v.toList ++ []) n' S' g' 0 0 P)) ∧ (((g 63 x1.toNat) ≠ (g 63 x2.toNat)) → P (some (I_ 0)) n (W0 dy) g))) : V miX12_isLike (d + 1) 0 [(0, .ref 53), (1, I_ x1), (2, I_ x2)] [] n (W0 dy) g 0 0 P := by
  refine v_aload_n 0 0 rfl rfl rfl ?_
  refine v_gK 1 rfl fl12_20_11.r (al 53 rfl hn) (wk53 dy) (by decide) rfl (r := 57) (wc53_6 dy) ?_
  refine v_iload_n 2 1 rfl rfl rfl ?_
  have c1 := h.1
  have h := h.2
  refine v_ia (N := 60) 3 rfl (al 57 rfl hn) (wk57 dy) (wn57 dy) (by decide) c1 (y := g 57 x1.toNat) rfl ?_
  refine v_rng fun w2 => ?_
  have p3 : i3 (g 57 x1.toNat) := rI w2 (q := x1.toNat) (al 57 rfl hn) (wk57 dy) rfl rfl
  refine v_aload_n 4 0 rfl rfl rfl ?_
  refine v_gK 5 rfl fl12_20_11.r (al 53 rfl hn) (wk53 dy) (by decide) rfl (r := 57) (wc53_6 dy) ?_
  refine v_iload_n 6 2 rfl rfl rfl ?_
  have c4 := h.1
  have h := h.2
  refine v_ia (N := 60) 7 rfl (al 57 rfl hn) (wk57 dy) (wn57 dy) (by decide) c4 (y := g 57 x2.toNat) rfl ?_
  refine v_rng fun w5 => ?_
  have p6 : i3 (g 57 x2.toNat) := rI w5 (q := x2.toNat) (al 57 rfl hn) (wk57 dy) rfl rfl
  refine v_icmp_ne 8 rfl (tgt := 31) rfl p3 p6 (fun q7 => ?_) (fun q7 => ?_)
  · have h := h.1 q7
    refine v_iconst 19 rfl ?_
    exact v_ret (v := some (I_ 0)) 20 rfl (Nat.zero_le _) (Nat.zero_le _) (Or.inl rfl) rfl h
  · have h := h.2 q7
    refine v_aload_n 9 0 rfl rfl rfl ?_
    refine v_gK 10 rfl fl12_38_11.r (al 53 rfl hn) (wk53 dy) (by decide) rfl (r := 63) (wc53_12 dy) ?_
    refine v_iload_n 11 1 rfl rfl rfl ?_
    refine v_la (N := 60) 12 rfl (al 63 rfl hn) (wk63 dy) (wn63 dy) (by decide) c1 (y := g 63 x1.toNat) rfl ?_
    refine v_rng fun w8 => ?_
    have p9 : i6 (g 63 x1.toNat) := rL w8 (q := x1.toNat) (al 63 rfl hn) (wk63 dy) rfl rfl
    refine v_aload_n 13 0 rfl rfl rfl ?_
    refine v_gK 14 rfl fl12_38_11.r (al 53 rfl hn) (wk53 dy) (by decide) rfl (r := 63) (wc53_12 dy) ?_
    refine v_iload_n 15 2 rfl rfl rfl ?_
    refine v_la (N := 60) 16 rfl (al 63 rfl hn) (wk63 dy) (wn63 dy) (by decide) c4 (y := g 63 x2.toNat) rfl ?_
    refine v_rng fun w10 => ?_
    have p11 : i6 (g 63 x2.toNat) := rL w10 (q := x2.toNat) (al 63 rfl hn) (wk63 dy) rfl rfl
    refine v_lif_eq 17 rfl rfl (tgt := 33) rfl p9 p11 (fun q12 => ?_) (fun q12 => ?_)
    · have h := h.1 q12
      refine v_aload_n 21 0 rfl rfl rfl ?_
      refine v_iload_n 22 1 rfl rfl rfl ?_
      refine v_callV (st := []) [I_ x1] 23 rfl lv12_237_isLike_11 (al 53 rfl hn) (wk53 dy) (by decide) rfl (Nat.le_refl _) (Nat.le_refl _) ?_
      exact h
    · have h := h.2 q12
      refine v_iconst 19 rfl ?_
      exact v_ret (v := some (I_ 0)) 20 rfl (Nat.zero_le _) (Nat.zero_le _) (Or.inl rfl) rfl h
set_option maxHeartbeats 8000000 in
set_option maxRecDepth 4000 in
theorem bX12_isLike_38 {d n : Nat} {dy : Nat → Shp} {g : Hp} {P : Pst} {x1 : Int} {x2 : Int} {xs0 : Int} (hn : 100 ≤ n) (h : (i3 xs0) ∧ ((xs0 ≠ 0) → (0 ≤ x1 ∧ x1 < 60) ∧ (0 ≤ x2 ∧ x2 < 60) ∧ (((g 59 x1.toNat) ≠ (g 59 x2.toNat)) → P (some (I_ 0)) n (W0 dy) g) ∧ (((g 59 x1.toNat) = (g 59 x2.toNat)) → (((g 58 x1.toNat) = (g 58 x2.toNat)) → (i6 ((g 64 x1.toNat) * (g 65 x2.toNat))) ∧ (i6 ((g 64 x2.toNat) * (g 65 x1.toNat))) ∧ ((((g 64 x1.toNat) * (g 65 x2.toNat)) ≠ ((g 64 x2.toNat) * (g 65 x1.toNat))) → (i6 (((g 65 x2.toNat) - (g 64 x2.toNat)) * (g 65 x1.toNat))) ∧ ((((g 64 x1.toNat) * (g 65 x2.toNat)) ≠ (((g 65 x2.toNat) - (g 64 x2.toNat)) * (g 65 x1.toNat))) → P (some (I_ 0)) n (W0 dy) g) ∧ ((((g 64 x1.toNat) * (g 65 x2.toNat)) = (((g 65 x2.toNat) - (g 64 x2.toNat)) * (g 65 x1.toNat))) → Runs miX12_isSide d [.ref 53, I_ (g 66 x1.toNat), I_ (g 67 x2.toNat)] n (W0 dy) g (fun v n' S' g' => V miX12_isLike (d + 1) 198 [(0, .ref 53), (1, I_ x1), (2, I_ x2)] (v.toList ++ []) n' S' g' 0 0 P))) ∧ ((((g 64 x1.toNat) * (g 65 x2.toNat)) = ((g 64 x2.toNat) * (g 65 x1.toNat))) → Runs miX12_isSide d [.ref 53, I_ (g 66 x1.toNat), I_ (g 66 x2.toNat)] n (W0 dy) g (fun v n' S' g' => V miX12_isLike (d + 1) 121 [(0, .ref 53), (1, I_ x1), (2, I_ x2)] (v.toList ++ []) n' S' g' 0 0 P))) ∧ (((g 58 x1.toNat) ≠ (g 58 x2.toNat)) → P (some (I_ 0)) n (W0 dy) g))) ∧ ((xs0 = 0) → P (some (I_ 1)) n (W0 dy) g)) : V miX12_isLike (d + 1) 38 [(0, .ref 53), (1, I_ x1), (2, I_ x2)] [I_ xs0] n (W0 dy) g 0 0 P := by
  have c1 := h.1
  have h := h.2
  refine v_if_ne 24 rfl (tgt := 43) rfl c1 (fun q2 => ?_) (fun q2 => ?_)
  · have h := h.1 q2
    refine v_aload_n 27 0 rfl rfl rfl ?_
    refine v_gK 28 rfl fl12_26_11.r (al 53 rfl hn) (wk53 dy) (by decide) rfl (r := 59) (wc53_8 dy) ?_
    refine v_iload_n 29 1 rfl rfl rfl ?_
    have c3 := h.1
    have h := h.2
    refine v_ia (N := 60) 30 rfl (al 59 rfl hn) (wk59 dy) (wn59 dy) (by decide) c3 (y := g 59 x1.toNat) rfl ?_
    refine v_rng fun w4 => ?_
    have p5 : i3 (g 59 x1.toNat) := rI w4 (q := x1.toNat) (al 59 rfl hn) (wk59 dy) rfl rfl
    refine v_aload_n 31 0 rfl rfl rfl ?_
    refine v_gK 32 rfl fl12_26_11.r (al 53 rfl hn) (wk53 dy) (by decide) rfl (r := 59) (wc53_8 dy) ?_
    refine v_iload_n 33 2 rfl rfl rfl ?_
    have c6 := h.1
    have h := h.2
    refine v_ia (N := 60) 34 rfl (al 59 rfl hn) (wk59 dy) (wn59 dy) (by decide) c6 (y := g 59 x2.toNat) rfl ?_
    refine v_rng fun w7 => ?_
    have p8 : i3 (g 59 x2.toNat) := rI w7 (q := x2.toNat) (al 59 rfl hn) (wk59 dy) rfl rfl
    refine v_icmp_ne 35 rfl (tgt := 73) rfl p5 p8 (fun q9 => ?_) (fun q9 => ?_)
    · have h := h.1 q9
      refine v_iconst 45 rfl ?_
      exact v_ret (v := some (I_ 0)) 46 rfl (Nat.zero_le _) (Nat.zero_le _) (Or.inl rfl) rfl h
    · have h := h.2 q9
      refine v_aload_n 36 0 rfl rfl rfl ?_
      refine v_gK 37 rfl fl12_23_11.r (al 53 rfl hn) (wk53 dy) (by decide) rfl (r := 58) (wc53_7 dy) ?_
      refine v_iload_n 38 1 rfl rfl rfl ?_
      refine v_ia (N := 60) 39 rfl (al 58 rfl hn) (wk58 dy) (wn58 dy) (by decide) c3 (y := g 58 x1.toNat) rfl ?_
      refine v_rng fun w10 => ?_
      have p11 : i3 (g 58 x1.toNat) := rI w10 (q := x1.toNat) (al 58 rfl hn) (wk58 dy) rfl rfl
      refine v_aload_n 40 0 rfl rfl rfl ?_
      refine v_gK 41 rfl fl12_23_11.r (al 53 rfl hn) (wk53 dy) (by decide) rfl (r := 58) (wc53_7 dy) ?_
      refine v_iload_n 42 2 rfl rfl rfl ?_
      refine v_ia (N := 60) 43 rfl (al 58 rfl hn) (wk58 dy) (wn58 dy) (by decide) c6 (y := g 58 x2.toNat) rfl ?_
      refine v_rng fun w12 => ?_
      have p13 : i3 (g 58 x2.toNat) := rI w12 (q := x2.toNat) (al 58 rfl hn) (wk58 dy) rfl rfl
      refine v_icmp_eq 44 rfl (tgt := 75) rfl p11 p13 (fun q14 => ?_) (fun q14 => ?_)
      · have h := h.1 q14
        refine v_aload_n 47 0 rfl rfl rfl ?_
        refine v_gK 48 rfl fl12_41_11.r (al 53 rfl hn) (wk53 dy) (by decide) rfl (r := 64) (wc53_13 dy) ?_
        refine v_iload_n 49 1 rfl rfl rfl ?_
        refine v_la (N := 60) 50 rfl (al 64 rfl hn) (wk64 dy) (wn64 dy) (by decide) c3 (y := g 64 x1.toNat) rfl ?_
        refine v_rng fun w15 => ?_
        have p16 : i6 (g 64 x1.toNat) := rL w15 (q := x1.toNat) (al 64 rfl hn) (wk64 dy) rfl rfl
        refine v_aload_n 51 0 rfl rfl rfl ?_
        refine v_gK 52 rfl fl12_44_11.r (al 53 rfl hn) (wk53 dy) (by decide) rfl (r := 65) (wc53_14 dy) ?_
        refine v_iload_n 53 2 rfl rfl rfl ?_
        refine v_la (N := 60) 54 rfl (al 65 rfl hn) (wk65 dy) (wn65 dy) (by decide) c6 (y := g 65 x2.toNat) rfl ?_
        refine v_rng fun w17 => ?_
        have p18 : i6 (g 65 x2.toNat) := rL w17 (q := x2.toNat) (al 65 rfl hn) (wk65 dy) rfl rfl
        refine v_lmul 55 rfl ?_
        refine v_aload_n 56 0 rfl rfl rfl ?_
        refine v_gK 57 rfl fl12_41_11.r (al 53 rfl hn) (wk53 dy) (by decide) rfl (r := 64) (wc53_13 dy) ?_
        refine v_iload_n 58 2 rfl rfl rfl ?_
        refine v_la (N := 60) 59 rfl (al 64 rfl hn) (wk64 dy) (wn64 dy) (by decide) c6 (y := g 64 x2.toNat) rfl ?_
        refine v_rng fun w19 => ?_
        have p20 : i6 (g 64 x2.toNat) := rL w19 (q := x2.toNat) (al 64 rfl hn) (wk64 dy) rfl rfl
        refine v_aload_n 60 0 rfl rfl rfl ?_
        refine v_gK 61 rfl fl12_44_11.r (al 53 rfl hn) (wk53 dy) (by decide) rfl (r := 65) (wc53_14 dy) ?_
        refine v_iload_n 62 1 rfl rfl rfl ?_
        refine v_la (N := 60) 63 rfl (al 65 rfl hn) (wk65 dy) (wn65 dy) (by decide) c3 (y := g 65 x1.toNat) rfl ?_
        refine v_rng fun w21 => ?_
        have p22 : i6 (g 65 x1.toNat) := rL w21 (q := x1.toNat) (al 65 rfl hn) (wk65 dy) rfl rfl
        refine v_lmul 64 rfl ?_
        have c23 := h.1
        have h := h.2
        have c24 := h.1
        have h := h.2
        refine v_lif_ne 65 rfl rfl (tgt := 145) rfl c23 c24 (fun q25 => ?_) (fun q25 => ?_)
        · have h := h.1 q25
          refine v_aload_n 91 0 rfl rfl rfl ?_
          refine v_gK 92 rfl fl12_41_11.r (al 53 rfl hn) (wk53 dy) (by decide) rfl (r := 64) (wc53_13 dy) ?_
          refine v_iload_n 93 1 rfl rfl rfl ?_
          refine v_la (N := 60) 94 rfl (al 64 rfl hn) (wk64 dy) (wn64 dy) (by decide) c3 (y := g 64 x1.toNat) rfl ?_
          refine v_rng fun w26 => ?_
          have p27 : i6 (g 64 x1.toNat) := rL w26 (q := x1.toNat) (al 64 rfl hn) (wk64 dy) rfl rfl
          refine v_aload_n 95 0 rfl rfl rfl ?_
          refine v_gK 96 rfl fl12_44_11.r (al 53 rfl hn) (wk53 dy) (by decide) rfl (r := 65) (wc53_14 dy) ?_
          refine v_iload_n 97 2 rfl rfl rfl ?_
          refine v_la (N := 60) 98 rfl (al 65 rfl hn) (wk65 dy) (wn65 dy) (by decide) c6 (y := g 65 x2.toNat) rfl ?_
          refine v_rng fun w28 => ?_
          have p29 : i6 (g 65 x2.toNat) := rL w28 (q := x2.toNat) (al 65 rfl hn) (wk65 dy) rfl rfl
          refine v_lmul 99 rfl ?_
          refine v_aload_n 100 0 rfl rfl rfl ?_
          refine v_gK 101 rfl fl12_44_11.r (al 53 rfl hn) (wk53 dy) (by decide) rfl (r := 65) (wc53_14 dy) ?_
          refine v_iload_n 102 2 rfl rfl rfl ?_
          refine v_la (N := 60) 103 rfl (al 65 rfl hn) (wk65 dy) (wn65 dy) (by decide) c6 (y := g 65 x2.toNat) rfl ?_
          refine v_rng fun w30 => ?_
          have p31 : i6 (g 65 x2.toNat) := rL w30 (q := x2.toNat) (al 65 rfl hn) (wk65 dy) rfl rfl
          refine v_aload_n 104 0 rfl rfl rfl ?_
          refine v_gK 105 rfl fl12_41_11.r (al 53 rfl hn) (wk53 dy) (by decide) rfl (r := 64) (wc53_13 dy) ?_
          refine v_iload_n 106 2 rfl rfl rfl ?_
          refine v_la (N := 60) 107 rfl (al 64 rfl hn) (wk64 dy) (wn64 dy) (by decide) c6 (y := g 64 x2.toNat) rfl ?_
          refine v_rng fun w32 => ?_
          have p33 : i6 (g 64 x2.toNat) := rL w32 (q := x2.toNat) (al 64 rfl hn) (wk64 dy) rfl rfl
          refine v_lsub 108 rfl ?_
          refine v_aload_n 109 0 rfl rfl rfl ?_
          refine v_gK 110 rfl fl12_44_11.r (al 53 rfl hn) (wk53 dy) (by decide) rfl (r := 65) (wc53_14 dy) ?_
          refine v_iload_n 111 1 rfl rfl rfl ?_
          refine v_la (N := 60) 112 rfl (al 65 rfl hn) (wk65 dy) (wn65 dy) (by decide) c3 (y := g 65 x1.toNat) rfl ?_
          refine v_rng fun w34 => ?_
          have p35 : i6 (g 65 x1.toNat) := rL w34 (q := x1.toNat) (al 65 rfl hn) (wk65 dy) rfl rfl
          refine v_lmul 113 rfl ?_
          have c36 := h.1
          have h := h.2
          refine v_lif_ne 114 rfl rfl (tgt := 224) rfl c23 c36 (fun q37 => ?_) (fun q37 => ?_)
          · have h := h.1 q37
            refine v_iconst 140 rfl ?_
            exact v_ret (v := some (I_ 0)) 141 rfl (Nat.zero_le _) (Nat.zero_le _) (Or.inl rfl) rfl h
          · have h := h.2 q37
            refine v_aload_n 116 0 rfl rfl rfl ?_
            refine v_aload_n 117 0 rfl rfl rfl ?_
            refine v_gK 118 rfl fl12_47_11.r (al 53 rfl hn) (wk53 dy) (by decide) rfl (r := 66) (wc53_15 dy) ?_
            refine v_iload_n 119 1 rfl rfl rfl ?_
            refine v_ia (N := 60) 120 rfl (al 66 rfl hn) (wk66 dy) (wn66 dy) (by decide) c3 (y := g 66 x1.toNat) rfl ?_
            refine v_rng fun w38 => ?_
            have p39 : i3 (g 66 x1.toNat) := rI w38 (q := x1.toNat) (al 66 rfl hn) (wk66 dy) rfl rfl
            refine v_aload_n 121 0 rfl rfl rfl ?_
            refine v_gK 122 rfl fl12_50_11.r (al 53 rfl hn) (wk53 dy) (by decide) rfl (r := 67) (wc53_16 dy) ?_
            refine v_iload_n 123 2 rfl rfl rfl ?_
            refine v_ia (N := 60) 124 rfl (al 67 rfl hn) (wk67 dy) (wn67 dy) (by decide) c6 (y := g 67 x2.toNat) rfl ?_
            refine v_rng fun w40 => ?_
            have p41 : i3 (g 67 x2.toNat) := rI w40 (q := x2.toNat) (al 67 rfl hn) (wk67 dy) rfl rfl
            refine v_callV (st := []) [I_ (g 66 x1.toNat), I_ (g 67 x2.toNat)] 125 rfl lv12_375_isLike_11 (al 53 rfl hn) (wk53 dy) (by decide) rfl (Nat.le_refl _) (Nat.le_refl _) ?_
            exact h
        · have h := h.2 q25
          refine v_aload_n 67 0 rfl rfl rfl ?_
          refine v_aload_n 68 0 rfl rfl rfl ?_
          refine v_gK 69 rfl fl12_47_11.r (al 53 rfl hn) (wk53 dy) (by decide) rfl (r := 66) (wc53_15 dy) ?_
          refine v_iload_n 70 1 rfl rfl rfl ?_
          refine v_ia (N := 60) 71 rfl (al 66 rfl hn) (wk66 dy) (wn66 dy) (by decide) c3 (y := g 66 x1.toNat) rfl ?_
          refine v_rng fun w42 => ?_
          have p43 : i3 (g 66 x1.toNat) := rI w42 (q := x1.toNat) (al 66 rfl hn) (wk66 dy) rfl rfl
          refine v_aload_n 72 0 rfl rfl rfl ?_
          refine v_gK 73 rfl fl12_47_11.r (al 53 rfl hn) (wk53 dy) (by decide) rfl (r := 66) (wc53_15 dy) ?_
          refine v_iload_n 74 2 rfl rfl rfl ?_
          refine v_ia (N := 60) 75 rfl (al 66 rfl hn) (wk66 dy) (wn66 dy) (by decide) c6 (y := g 66 x2.toNat) rfl ?_
          refine v_rng fun w44 => ?_
          have p45 : i3 (g 66 x2.toNat) := rI w44 (q := x2.toNat) (al 66 rfl hn) (wk66 dy) rfl rfl
          refine v_callV (st := []) [I_ (g 66 x1.toNat), I_ (g 66 x2.toNat)] 76 rfl lv12_375_isLike_11 (al 53 rfl hn) (wk53 dy) (by decide) rfl (Nat.le_refl _) (Nat.le_refl _) ?_
          exact h
      · have h := h.2 q14
        refine v_iconst 45 rfl ?_
        exact v_ret (v := some (I_ 0)) 46 rfl (Nat.zero_le _) (Nat.zero_le _) (Or.inl rfl) rfl h
  · have h := h.2 q2
    refine v_iconst 25 rfl ?_
    exact v_ret (v := some (I_ 1)) 26 rfl (Nat.zero_le _) (Nat.zero_le _) (Or.inr rfl) rfl h
set_option maxHeartbeats 8000000 in
set_option maxRecDepth 4000 in
theorem bX12_isLike_121 {d n : Nat} {dy : Nat → Shp} {g : Hp} {P : Pst} {x1 : Int} {x2 : Int} {xs0 : Int} (hn : 100 ≤ n) (h : (i3 xs0) ∧ ((xs0 = 0) → (0 ≤ x1 ∧ x1 < 60) ∧ (0 ≤ x2 ∧ x2 < 60) ∧ (i6 ((g 64 x1.toNat) * (g 65 x2.toNat))) ∧ (i6 (((g 65 x2.toNat) - (g 64 x2.toNat)) * (g 65 x1.toNat))) ∧ ((((g 64 x1.toNat) * (g 65 x2.toNat)) ≠ (((g 65 x2.toNat) - (g 64 x2.toNat)) * (g 65 x1.toNat))) → P (some (I_ 0)) n (W0 dy) g) ∧ ((((g 64 x1.toNat) * (g 65 x2.toNat)) = (((g 65 x2.toNat) - (g 64 x2.toNat)) * (g 65 x1.toNat))) → Runs miX12_isSide d [.ref 53, I_ (g 66 x1.toNat), I_ (g 67 x2.toNat)] n (W0 dy) g (fun v n' S' g' => V miX12_isLike (d + 1) 198 [(0, .ref 53), (1, I_ x1), (2, I_ x2)] (v.toList ++ []) n' S' g' 0 0 P))) ∧ ((xs0 ≠ 0) → (0 ≤ x1 ∧ x1 < 60) ∧ (0 ≤ x2 ∧ x2 < 60) ∧ Runs miX12_isSide d [.ref 53, I_ (g 67 x1.toNat), I_ (g 67 x2.toNat)] n (W0 dy) g (fun v n' S' g' => V miX12_isLike (d + 1) 140 [(0, .ref 53), (1, I_ x1), (2, I_ x2)] (v.toList ++ []) n' S' g' 0 0 P))) : V miX12_isLike (d + 1) 121 [(0, .ref 53), (1, I_ x1), (2, I_ x2)] [I_ xs0] n (W0 dy) g 0 0 P := by
  have c1 := h.1
  have h := h.2
  refine v_if_eq 77 rfl (tgt := 145) rfl c1 (fun q2 => ?_) (fun q2 => ?_)
  · have h := h.1 q2
    refine v_aload_n 91 0 rfl rfl rfl ?_
    refine v_gK 92 rfl fl12_41_11.r (al 53 rfl hn) (wk53 dy) (by decide) rfl (r := 64) (wc53_13 dy) ?_
    refine v_iload_n 93 1 rfl rfl rfl ?_
    have c3 := h.1
    have h := h.2
    refine v_la (N := 60) 94 rfl (al 64 rfl hn) (wk64 dy) (wn64 dy) (by decide) c3 (y := g 64 x1.toNat) rfl ?_
    refine v_rng fun w4 => ?_
    have p5 : i6 (g 64 x1.toNat) := rL w4 (q := x1.toNat) (al 64 rfl hn) (wk64 dy) rfl rfl
    refine v_aload_n 95 0 rfl rfl rfl ?_
    refine v_gK 96 rfl fl12_44_11.r (al 53 rfl hn) (wk53 dy) (by decide) rfl (r := 65) (wc53_14 dy) ?_
    refine v_iload_n 97 2 rfl rfl rfl ?_
    have c6 := h.1
    have h := h.2
    refine v_la (N := 60) 98 rfl (al 65 rfl hn) (wk65 dy) (wn65 dy) (by decide) c6 (y := g 65 x2.toNat) rfl ?_
    refine v_rng fun w7 => ?_
    have p8 : i6 (g 65 x2.toNat) := rL w7 (q := x2.toNat) (al 65 rfl hn) (wk65 dy) rfl rfl
    refine v_lmul 99 rfl ?_
    refine v_aload_n 100 0 rfl rfl rfl ?_
    refine v_gK 101 rfl fl12_44_11.r (al 53 rfl hn) (wk53 dy) (by decide) rfl (r := 65) (wc53_14 dy) ?_
    refine v_iload_n 102 2 rfl rfl rfl ?_
    refine v_la (N := 60) 103 rfl (al 65 rfl hn) (wk65 dy) (wn65 dy) (by decide) c6 (y := g 65 x2.toNat) rfl ?_
    refine v_rng fun w9 => ?_
    have p10 : i6 (g 65 x2.toNat) := rL w9 (q := x2.toNat) (al 65 rfl hn) (wk65 dy) rfl rfl
    refine v_aload_n 104 0 rfl rfl rfl ?_
    refine v_gK 105 rfl fl12_41_11.r (al 53 rfl hn) (wk53 dy) (by decide) rfl (r := 64) (wc53_13 dy) ?_
    refine v_iload_n 106 2 rfl rfl rfl ?_
    refine v_la (N := 60) 107 rfl (al 64 rfl hn) (wk64 dy) (wn64 dy) (by decide) c6 (y := g 64 x2.toNat) rfl ?_
    refine v_rng fun w11 => ?_
    have p12 : i6 (g 64 x2.toNat) := rL w11 (q := x2.toNat) (al 64 rfl hn) (wk64 dy) rfl rfl
    refine v_lsub 108 rfl ?_
    refine v_aload_n 109 0 rfl rfl rfl ?_
    refine v_gK 110 rfl fl12_44_11.r (al 53 rfl hn) (wk53 dy) (by decide) rfl (r := 65) (wc53_14 dy) ?_
    refine v_iload_n 111 1 rfl rfl rfl ?_
    refine v_la (N := 60) 112 rfl (al 65 rfl hn) (wk65 dy) (wn65 dy) (by decide) c3 (y := g 65 x1.toNat) rfl ?_
    refine v_rng fun w13 => ?_
    have p14 : i6 (g 65 x1.toNat) := rL w13 (q := x1.toNat) (al 65 rfl hn) (wk65 dy) rfl rfl
    refine v_lmul 113 rfl ?_
    have c15 := h.1
    have h := h.2
    have c16 := h.1
    have h := h.2
    refine v_lif_ne 114 rfl rfl (tgt := 224) rfl c15 c16 (fun q17 => ?_) (fun q17 => ?_)
    · have h := h.1 q17
      refine v_iconst 140 rfl ?_
      exact v_ret (v := some (I_ 0)) 141 rfl (Nat.zero_le _) (Nat.zero_le _) (Or.inl rfl) rfl h
    · have h := h.2 q17
      refine v_aload_n 116 0 rfl rfl rfl ?_
      refine v_aload_n 117 0 rfl rfl rfl ?_
      refine v_gK 118 rfl fl12_47_11.r (al 53 rfl hn) (wk53 dy) (by decide) rfl (r := 66) (wc53_15 dy) ?_
      refine v_iload_n 119 1 rfl rfl rfl ?_
      refine v_ia (N := 60) 120 rfl (al 66 rfl hn) (wk66 dy) (wn66 dy) (by decide) c3 (y := g 66 x1.toNat) rfl ?_
      refine v_rng fun w18 => ?_
      have p19 : i3 (g 66 x1.toNat) := rI w18 (q := x1.toNat) (al 66 rfl hn) (wk66 dy) rfl rfl
      refine v_aload_n 121 0 rfl rfl rfl ?_
      refine v_gK 122 rfl fl12_50_11.r (al 53 rfl hn) (wk53 dy) (by decide) rfl (r := 67) (wc53_16 dy) ?_
      refine v_iload_n 123 2 rfl rfl rfl ?_
      refine v_ia (N := 60) 124 rfl (al 67 rfl hn) (wk67 dy) (wn67 dy) (by decide) c6 (y := g 67 x2.toNat) rfl ?_
      refine v_rng fun w20 => ?_
      have p21 : i3 (g 67 x2.toNat) := rI w20 (q := x2.toNat) (al 67 rfl hn) (wk67 dy) rfl rfl
      refine v_callV (st := []) [I_ (g 66 x1.toNat), I_ (g 67 x2.toNat)] 125 rfl lv12_375_isLike_11 (al 53 rfl hn) (wk53 dy) (by decide) rfl (Nat.le_refl _) (Nat.le_refl _) ?_
      exact h
  · have h := h.2 q2
    refine v_aload_n 78 0 rfl rfl rfl ?_
    refine v_aload_n 79 0 rfl rfl rfl ?_
    refine v_gK 80 rfl fl12_50_11.r (al 53 rfl hn) (wk53 dy) (by decide) rfl (r := 67) (wc53_16 dy) ?_
    refine v_iload_n 81 1 rfl rfl rfl ?_
    have c22 := h.1
    have h := h.2
    refine v_ia (N := 60) 82 rfl (al 67 rfl hn) (wk67 dy) (wn67 dy) (by decide) c22 (y := g 67 x1.toNat) rfl ?_
    refine v_rng fun w23 => ?_
    have p24 : i3 (g 67 x1.toNat) := rI w23 (q := x1.toNat) (al 67 rfl hn) (wk67 dy) rfl rfl
    refine v_aload_n 83 0 rfl rfl rfl ?_
    refine v_gK 84 rfl fl12_50_11.r (al 53 rfl hn) (wk53 dy) (by decide) rfl (r := 67) (wc53_16 dy) ?_
    refine v_iload_n 85 2 rfl rfl rfl ?_
    have c25 := h.1
    have h := h.2
    refine v_ia (N := 60) 86 rfl (al 67 rfl hn) (wk67 dy) (wn67 dy) (by decide) c25 (y := g 67 x2.toNat) rfl ?_
    refine v_rng fun w26 => ?_
    have p27 : i3 (g 67 x2.toNat) := rI w26 (q := x2.toNat) (al 67 rfl hn) (wk67 dy) rfl rfl
    refine v_callV (st := []) [I_ (g 67 x1.toNat), I_ (g 67 x2.toNat)] 87 rfl lv12_375_isLike_11 (al 53 rfl hn) (wk53 dy) (by decide) rfl (Nat.le_refl _) (Nat.le_refl _) ?_
    exact h
set_option maxHeartbeats 8000000 in
set_option maxRecDepth 4000 in
theorem bX12_isLike_140 {d n : Nat} {dy : Nat → Shp} {g : Hp} {P : Pst} {x1 : Int} {x2 : Int} {xs0 : Int} (hn : 100 ≤ n) (h : (i3 xs0) ∧ ((xs0 = 0) → (0 ≤ x1 ∧ x1 < 60) ∧ (0 ≤ x2 ∧ x2 < 60) ∧ (i6 ((g 64 x1.toNat) * (g 65 x2.toNat))) ∧ (i6 (((g 65 x2.toNat) - (g 64 x2.toNat)) * (g 65 x1.toNat))) ∧ ((((g 64 x1.toNat) * (g 65 x2.toNat)) ≠ (((g 65 x2.toNat) - (g 64 x2.toNat)) * (g 65 x1.toNat))) → P (some (I_ 0)) n (W0 dy) g) ∧ ((((g 64 x1.toNat) * (g 65 x2.toNat)) = (((g 65 x2.toNat) - (g 64 x2.toNat)) * (g 65 x1.toNat))) → Runs miX12_isSide d [.ref 53, I_ (g 66 x1.toNat), I_ (g 67 x2.toNat)] n (W0 dy) g (fun v n' S' g' => V miX12_isLike (d + 1) 198 [(0, .ref 53), (1, I_ x1), (2, I_ x2)] (v.toList ++ []) n' S' g' 0 0 P))) ∧ ((xs0 ≠ 0) → P (some (I_ 1)) n (W0 dy) g)) : V miX12_isLike (d + 1) 140 [(0, .ref 53), (1, I_ x1), (2, I_ x2)] [I_ xs0] n (W0 dy) g 0 0 P := by
  have c1 := h.1
  have h := h.2
  refine v_if_eq 88 rfl (tgt := 145) rfl c1 (fun q2 => ?_) (fun q2 => ?_)
  · have h := h.1 q2
    refine v_aload_n 91 0 rfl rfl rfl ?_
    refine v_gK 92 rfl fl12_41_11.r (al 53 rfl hn) (wk53 dy) (by decide) rfl (r := 64) (wc53_13 dy) ?_
    refine v_iload_n 93 1 rfl rfl rfl ?_
    have c3 := h.1
    have h := h.2
    refine v_la (N := 60) 94 rfl (al 64 rfl hn) (wk64 dy) (wn64 dy) (by decide) c3 (y := g 64 x1.toNat) rfl ?_
    refine v_rng fun w4 => ?_
    have p5 : i6 (g 64 x1.toNat) := rL w4 (q := x1.toNat) (al 64 rfl hn) (wk64 dy) rfl rfl
    refine v_aload_n 95 0 rfl rfl rfl ?_
    refine v_gK 96 rfl fl12_44_11.r (al 53 rfl hn) (wk53 dy) (by decide) rfl (r := 65) (wc53_14 dy) ?_
    refine v_iload_n 97 2 rfl rfl rfl ?_
    have c6 := h.1
    have h := h.2
    refine v_la (N := 60) 98 rfl (al 65 rfl hn) (wk65 dy) (wn65 dy) (by decide) c6 (y := g 65 x2.toNat) rfl ?_
    refine v_rng fun w7 => ?_
    have p8 : i6 (g 65 x2.toNat) := rL w7 (q := x2.toNat) (al 65 rfl hn) (wk65 dy) rfl rfl
    refine v_lmul 99 rfl ?_
    refine v_aload_n 100 0 rfl rfl rfl ?_
    refine v_gK 101 rfl fl12_44_11.r (al 53 rfl hn) (wk53 dy) (by decide) rfl (r := 65) (wc53_14 dy) ?_
    refine v_iload_n 102 2 rfl rfl rfl ?_
    refine v_la (N := 60) 103 rfl (al 65 rfl hn) (wk65 dy) (wn65 dy) (by decide) c6 (y := g 65 x2.toNat) rfl ?_
    refine v_rng fun w9 => ?_
    have p10 : i6 (g 65 x2.toNat) := rL w9 (q := x2.toNat) (al 65 rfl hn) (wk65 dy) rfl rfl
    refine v_aload_n 104 0 rfl rfl rfl ?_
    refine v_gK 105 rfl fl12_41_11.r (al 53 rfl hn) (wk53 dy) (by decide) rfl (r := 64) (wc53_13 dy) ?_
    refine v_iload_n 106 2 rfl rfl rfl ?_
    refine v_la (N := 60) 107 rfl (al 64 rfl hn) (wk64 dy) (wn64 dy) (by decide) c6 (y := g 64 x2.toNat) rfl ?_
    refine v_rng fun w11 => ?_
    have p12 : i6 (g 64 x2.toNat) := rL w11 (q := x2.toNat) (al 64 rfl hn) (wk64 dy) rfl rfl
    refine v_lsub 108 rfl ?_
    refine v_aload_n 109 0 rfl rfl rfl ?_
    refine v_gK 110 rfl fl12_44_11.r (al 53 rfl hn) (wk53 dy) (by decide) rfl (r := 65) (wc53_14 dy) ?_
    refine v_iload_n 111 1 rfl rfl rfl ?_
    refine v_la (N := 60) 112 rfl (al 65 rfl hn) (wk65 dy) (wn65 dy) (by decide) c3 (y := g 65 x1.toNat) rfl ?_
    refine v_rng fun w13 => ?_
    have p14 : i6 (g 65 x1.toNat) := rL w13 (q := x1.toNat) (al 65 rfl hn) (wk65 dy) rfl rfl
    refine v_lmul 113 rfl ?_
    have c15 := h.1
    have h := h.2
    have c16 := h.1
    have h := h.2
    refine v_lif_ne 114 rfl rfl (tgt := 224) rfl c15 c16 (fun q17 => ?_) (fun q17 => ?_)
    · have h := h.1 q17
      refine v_iconst 140 rfl ?_
      exact v_ret (v := some (I_ 0)) 141 rfl (Nat.zero_le _) (Nat.zero_le _) (Or.inl rfl) rfl h
    · have h := h.2 q17
      refine v_aload_n 116 0 rfl rfl rfl ?_
      refine v_aload_n 117 0 rfl rfl rfl ?_
      refine v_gK 118 rfl fl12_47_11.r (al 53 rfl hn) (wk53 dy) (by decide) rfl (r := 66) (wc53_15 dy) ?_
      refine v_iload_n 119 1 rfl rfl rfl ?_
      refine v_ia (N := 60) 120 rfl (al 66 rfl hn) (wk66 dy) (wn66 dy) (by decide) c3 (y := g 66 x1.toNat) rfl ?_
      refine v_rng fun w18 => ?_
      have p19 : i3 (g 66 x1.toNat) := rI w18 (q := x1.toNat) (al 66 rfl hn) (wk66 dy) rfl rfl
      refine v_aload_n 121 0 rfl rfl rfl ?_
      refine v_gK 122 rfl fl12_50_11.r (al 53 rfl hn) (wk53 dy) (by decide) rfl (r := 67) (wc53_16 dy) ?_
      refine v_iload_n 123 2 rfl rfl rfl ?_
      refine v_ia (N := 60) 124 rfl (al 67 rfl hn) (wk67 dy) (wn67 dy) (by decide) c6 (y := g 67 x2.toNat) rfl ?_
      refine v_rng fun w20 => ?_
      have p21 : i3 (g 67 x2.toNat) := rI w20 (q := x2.toNat) (al 67 rfl hn) (wk67 dy) rfl rfl
      refine v_callV (st := []) [I_ (g 66 x1.toNat), I_ (g 67 x2.toNat)] 125 rfl lv12_375_isLike_11 (al 53 rfl hn) (wk53 dy) (by decide) rfl (Nat.le_refl _) (Nat.le_refl _) ?_
      exact h
  · have h := h.2 q2
    refine v_iconst 89 rfl ?_
    exact v_ret (v := some (I_ 1)) 90 rfl (Nat.zero_le _) (Nat.zero_le _) (Or.inr rfl) rfl h
set_option maxHeartbeats 8000000 in
set_option maxRecDepth 4000 in
theorem bX12_isLike_198 {d n : Nat} {dy : Nat → Shp} {g : Hp} {P : Pst} {x1 : Int} {x2 : Int} {xs0 : Int} (hn : 100 ≤ n) (h : (i3 xs0) ∧ ((xs0 = 0) → P (some (I_ 0)) n (W0 dy) g) ∧ ((xs0 ≠ 0) → (0 ≤ x1 ∧ x1 < 60) ∧ (0 ≤ x2 ∧ x2 < 60) ∧ Runs miX12_isSide d [.ref 53, I_ (g 67 x1.toNat), I_ (g 66 x2.toNat)] n (W0 dy) g (fun v n' S' g' => V miX12_isLike (d + 1) 217 [(0, .ref 53), (1, I_ x1), (2, I_ x2)] (v.toList ++ []) n' S' g' 0 0 P))) : V miX12_isLike (d + 1) 198 [(0, .ref 53), (1, I_ x1), (2, I_ x2)] [I_ xs0] n (W0 dy) g 0 0 P := by
  have c1 := h.1
  have h := h.2
  refine v_if_eq 126 rfl (tgt := 224) rfl c1 (fun q2 => ?_) (fun q2 => ?_)
  · have h := h.1 q2
    refine v_iconst 140 rfl ?_
    exact v_ret (v := some (I_ 0)) 141 rfl (Nat.zero_le _) (Nat.zero_le _) (Or.inl rfl) rfl h
  · have h := h.2 q2
    refine v_aload_n 127 0 rfl rfl rfl ?_
    refine v_aload_n 128 0 rfl rfl rfl ?_
    refine v_gK 129 rfl fl12_50_11.r (al 53 rfl hn) (wk53 dy) (by decide) rfl (r := 67) (wc53_16 dy) ?_
    refine v_iload_n 130 1 rfl rfl rfl ?_
    have c3 := h.1
    have h := h.2
    refine v_ia (N := 60) 131 rfl (al 67 rfl hn) (wk67 dy) (wn67 dy) (by decide) c3 (y := g 67 x1.toNat) rfl ?_
    refine v_rng fun w4 => ?_
    have p5 : i3 (g 67 x1.toNat) := rI w4 (q := x1.toNat) (al 67 rfl hn) (wk67 dy) rfl rfl
    refine v_aload_n 132 0 rfl rfl rfl ?_
    refine v_gK 133 rfl fl12_47_11.r (al 53 rfl hn) (wk53 dy) (by decide) rfl (r := 66) (wc53_15 dy) ?_
    refine v_iload_n 134 2 rfl rfl rfl ?_
    have c6 := h.1
    have h := h.2
    refine v_ia (N := 60) 135 rfl (al 66 rfl hn) (wk66 dy) (wn66 dy) (by decide) c6 (y := g 66 x2.toNat) rfl ?_
    refine v_rng fun w7 => ?_
    have p8 : i3 (g 66 x2.toNat) := rI w7 (q := x2.toNat) (al 66 rfl hn) (wk66 dy) rfl rfl
    refine v_callV (st := []) [I_ (g 67 x1.toNat), I_ (g 66 x2.toNat)] 136 rfl lv12_375_isLike_11 (al 53 rfl hn) (wk53 dy) (by decide) rfl (Nat.le_refl _) (Nat.le_refl _) ?_
    exact h
set_option maxHeartbeats 8000000 in
set_option maxRecDepth 4000 in
theorem bX12_isLike_217 {d n : Nat} {dy : Nat → Shp} {g : Hp} {P : Pst} {x1 : Int} {x2 : Int} {xs0 : Int} (hn : 100 ≤ n) (h : (i3 xs0) ∧ ((xs0 = 0) → P (some (I_ 0)) n (W0 dy) g) ∧ ((xs0 ≠ 0) → P (some (I_ 1)) n (W0 dy) g)) : V miX12_isLike (d + 1) 217 [(0, .ref 53), (1, I_ x1), (2, I_ x2)] [I_ xs0] n (W0 dy) g 0 0 P := by
  have c1 := h.1
  have h := h.2
  refine v_if_eq 137 rfl (tgt := 224) rfl c1 (fun q2 => ?_) (fun q2 => ?_)
  · have h := h.1 q2
    refine v_iconst 140 rfl ?_
    exact v_ret (v := some (I_ 0)) 141 rfl (Nat.zero_le _) (Nat.zero_le _) (Or.inl rfl) rfl h
  · have h := h.2 q2
    refine v_iconst 138 rfl ?_
    refine v_goto 139 rfl (tgt := 225) rfl ?_
    exact v_ret (v := some (I_ 1)) 141 rfl (Nat.zero_le _) (Nat.zero_le _) (Or.inr rfl) rfl h
theorem wX12_isLike {d n : Nat} {dy : Nat → Shp} {g : Hp} {P : Pst} {x1 : Int} {x2 : Int} (hn : 100 ≤ n) (h : (0 ≤ x1 ∧ x1 < 60) ∧ (0 ≤ x2 ∧ x2 < 60) ∧ (((g 57 x1.toNat) ≠ (g 57 x2.toNat)) → P (some (I_ 0)) n (W0 dy) g) ∧ (((g 57 x1.toNat) = (g 57 x2.toNat)) → (((g 63 x1.toNat) = (g 63 x2.toNat)) → Runs miX12_isRod d [.ref 53, I_ x1] n (W0 dy) g (fun v n' S' g' => V miX12_isLike (d + 1) 38 [(0, .ref 53), (1, I_ x1), (2, I_ x2)] (v.toList ++ []) n' S' g' 0 0 P)) ∧ (((g 63 x1.toNat) ≠ (g 63 x2.toNat)) → P (some (I_ 0)) n (W0 dy) g))) : Runs miX12_isLike (d + 1) [.ref 53, I_ x1, I_ x2] n (W0 dy) g P := Runs.of rfl rfl deX12_isLike (Nat.le_of_ble_eq_true rfl) (bX12_isLike_0 hn h)
