/-! the walk of the reference's middle, its loop -/
set_option maxHeartbeats 8000000 in
set_option maxRecDepth 4000 in
theorem bX12_middle_67 {d n : Nat} {dy : Nat → Shp} {g : Hp} {P : Pst} {x1 : Int} {x2 : Int} {x3 : Int} {x5 : Int} {x7 : Int} (hn : 100 ≤ n) (h : (0 ≤ x1 ∧ x1 < 60) ∧ (i3 x7) ∧ (((g 68 x1.toNat) ≤ x7) → Runs miX12_common d [L_ x5, L_ (3 * x3)] n (W0 dy) g (fun v n' S' g' => V miX12_middle (d + 1) 214 [(0, .ref 53), (1, I_ x1), (2, I_ x2), (3, L_ x3), (5, L_ x5), (7, L_ (3 * x3))] (v.toList ++ []) n' S' g' 0 0 P)) ∧ ((x7 < (g 68 x1.toNat)) → (i3 (x7 + 1)) ∧ (g 68 x1.toNat ≠ 0) ∧ ∀ y10 : Int, y10 = (8 * x1) + ((x7 + 1).tmod (g 68 x1.toNat)) → (0 ≤ (8 * x1) + x7 ∧ (8 * x1) + x7 < 480) ∧ (0 ≤ y10 ∧ y10 < 480) ∧ ∀ y21 : Int, y21 = ((g 69 (((8 * x1) + x7).toNat)) * (g 70 y10.toNat)) - ((g 69 y10.toNat) * (g 70 (((8 * x1) + x7).toNat))) → (i3 x2) ∧ ((2 ≤ x2) → (i3 ((g 70 (((8 * x1) + x7).toNat)) + (g 70 y10.toNat))) ∧ ∀ y29 : Int, y29 = x5 + (y21 * ((g 70 (((8 * x1) + x7).toNat)) + (g 70 y10.toNat))) → V miX12_middle (d + 1) 67 [(0, .ref 53), (1, I_ x1), (2, I_ x2), (3, L_ (x3 + y21)), (5, L_ y29), (7, I_ (x7 + 1))] [] n (W0 dy) g 0 0 P) ∧ ((x2 < 2) → (i3 ((g 69 (((8 * x1) + x7).toNat)) + (g 69 y10.toNat))) ∧ ∀ y35 : Int, y35 = x5 + (y21 * ((g 69 (((8 * x1) + x7).toNat)) + (g 69 y10.toNat))) → V miX12_middle (d + 1) 67 [(0, .ref 53), (1, I_ x1), (2, I_ x2), (3, L_ (x3 + y21)), (5, L_ y35), (7, I_ (x7 + 1))] [] n (W0 dy) g 0 0 P))) : V miX12_middle (d + 1) 67 [(0, .ref 53), (1, I_ x1), (2, I_ x2), (3, L_ x3), (5, L_ x5), (7, I_ x7)] [] n (W0 dy) g 0 0 P := by
  refine v_iload 42 5 rfl rfl ?_
  refine v_aload_n 43 0 rfl rfl rfl ?_
  refine v_gK 44 rfl fl12_53_11.r (al 53 rfl hn) (wk53 dy) (by decide) rfl (r := 68) (wc53_17 dy) ?_
  refine v_iload_n 45 1 rfl rfl rfl ?_
  have c1 := h.1
  have h := h.2
  refine v_ia (N := 60) 46 rfl (al 68 rfl hn) (wk68 dy) (wn68 dy) (by decide) c1 (y := g 68 x1.toNat) rfl ?_
  refine v_rng fun w2 => ?_
  have p3 : i3 (g 68 x1.toNat) := rI w2 (q := x1.toNat) (al 68 rfl hn) (wk68 dy) rfl rfl
  have c4 := h.1
  have h := h.2
  refine v_icmp_ge 47 rfl (tgt := 200) rfl c4 p3 (fun q5 => ?_) (fun q5 => ?_)
  · have h := h.1 q5
    refine v_ldc2 (v := 3) 125 rfl (tbG_in (List.mem_append_right _ (List.mem_of_getElem? (i := 1401) (by decide +kernel))) rfl) ?_
    refine v_lload_n 126 3 rfl rfl rfl ?_
    refine v_lmul 127 rfl ?_
    refine v_lstore 128 [1, 2, 3, 4, 5, 0] rfl (by decide) rfl ?_
    refine v_lload 129 4 rfl rfl ?_
    refine v_lload 130 5 rfl rfl ?_
    refine v_callS (st := []) [L_ x5, L_ (3 * x3)] 131 rfl ls12_227_middle rfl (Nat.lt_of_lt_of_le (by decide) hn) (Nat.le_refl _) (Nat.le_refl _) ?_
    exact h
  · have h := h.2 q5
    refine v_bipush 48 rfl (by decide) ?_
    refine v_iload_n 49 1 rfl rfl rfl ?_
    refine v_imul 50 rfl ?_
    refine v_iload 51 5 rfl rfl ?_
    refine v_iadd 52 rfl ?_
    refine v_istore 53 [1, 2, 3, 4, 5, 6, 0] rfl (by decide) rfl ?_
    refine v_bipush 54 rfl (by decide) ?_
    refine v_iload_n 55 1 rfl rfl rfl ?_
    refine v_imul 56 rfl ?_
    refine v_iload 57 5 rfl rfl ?_
    refine v_iconst 58 rfl ?_
    refine v_iadd 59 rfl ?_
    refine v_aload_n 60 0 rfl rfl rfl ?_
    refine v_gK 61 rfl fl12_53_11.r (al 53 rfl hn) (wk53 dy) (by decide) rfl (r := 68) (wc53_17 dy) ?_
    refine v_iload_n 62 1 rfl rfl rfl ?_
    refine v_ia (N := 60) 63 rfl (al 68 rfl hn) (wk68 dy) (wn68 dy) (by decide) c1 (y := g 68 x1.toNat) rfl ?_
    refine v_rng fun w6 => ?_
    have p7 : i3 (g 68 x1.toNat) := rI w6 (q := x1.toNat) (al 68 rfl hn) (wk68 dy) rfl rfl
    have c8 := h.1
    have h := h.2
    have c9 := h.1
    have h := h.2
    refine v_irem 64 rfl c8 p7 c9 ?_
    refine v_iadd 65 rfl ?_
    refine v_nmI (fun y10 ey10 => ?_)
    have h := h y10 ey10
    refine v_istore 66 [1, 2, 3, 4, 5, 6, 7, 0] rfl (by decide) rfl ?_
    show V miX12_middle (d + 1) 105 [(0, .ref 53), (1, I_ x1), (2, I_ x2), (3, L_ x3), (5, L_ x5), (7, I_ x7), (8, I_ ((8 * x1) + x7)), (9, I_ y10)] [] n (W0 dy) g 0 0 P
    refine v_aload_n 67 0 rfl rfl rfl ?_
    refine v_gK 68 rfl fl12_56_11.r (al 53 rfl hn) (wk53 dy) (by decide) rfl (r := 69) (wc53_18 dy) ?_
    refine v_iload 69 6 rfl rfl ?_
    have c11 := h.1
    have h := h.2
    refine v_ia (N := 480) 70 rfl (al 69 rfl hn) (wk69 dy) (wn69 dy) (by decide) c11 (y := g 69 (((8 * x1) + x7).toNat)) rfl ?_
    refine v_rng fun w12 => ?_
    have p13 : i3 (g 69 (((8 * x1) + x7).toNat)) := rI w12 (q := (((8 * x1) + x7).toNat)) (al 69 rfl hn) (wk69 dy) rfl rfl
    refine v_i2l 71 rfl p13 ?_
    refine v_aload_n 72 0 rfl rfl rfl ?_
    refine v_gK 73 rfl fl12_59_11.r (al 53 rfl hn) (wk53 dy) (by decide) rfl (r := 70) (wc53_19 dy) ?_
    refine v_iload 74 7 rfl rfl ?_
    have c14 := h.1
    have h := h.2
    refine v_ia (N := 480) 75 rfl (al 70 rfl hn) (wk70 dy) (wn70 dy) (by decide) c14 (y := g 70 y10.toNat) rfl ?_
    refine v_rng fun w15 => ?_
    have p16 : i3 (g 70 y10.toNat) := rI w15 (q := y10.toNat) (al 70 rfl hn) (wk70 dy) rfl rfl
    refine v_i2l 76 rfl p16 ?_
    refine v_lmul 77 rfl ?_
    refine v_aload_n 78 0 rfl rfl rfl ?_
    refine v_gK 79 rfl fl12_56_11.r (al 53 rfl hn) (wk53 dy) (by decide) rfl (r := 69) (wc53_18 dy) ?_
    refine v_iload 80 7 rfl rfl ?_
    refine v_ia (N := 480) 81 rfl (al 69 rfl hn) (wk69 dy) (wn69 dy) (by decide) c14 (y := g 69 y10.toNat) rfl ?_
    refine v_rng fun w17 => ?_
    have p18 : i3 (g 69 y10.toNat) := rI w17 (q := y10.toNat) (al 69 rfl hn) (wk69 dy) rfl rfl
    refine v_i2l 82 rfl p18 ?_
    refine v_aload_n 83 0 rfl rfl rfl ?_
    refine v_gK 84 rfl fl12_59_11.r (al 53 rfl hn) (wk53 dy) (by decide) rfl (r := 70) (wc53_19 dy) ?_
    refine v_iload 85 6 rfl rfl ?_
    refine v_ia (N := 480) 86 rfl (al 70 rfl hn) (wk70 dy) (wn70 dy) (by decide) c11 (y := g 70 (((8 * x1) + x7).toNat)) rfl ?_
    refine v_rng fun w19 => ?_
    have p20 : i3 (g 70 (((8 * x1) + x7).toNat)) := rI w19 (q := (((8 * x1) + x7).toNat)) (al 70 rfl hn) (wk70 dy) rfl rfl
    refine v_i2l 87 rfl p20 ?_
    refine v_lmul 88 rfl ?_
    refine v_lsub 89 rfl ?_
    refine v_nmL (fun y21 ey21 => ?_)
    have h := h y21 ey21
    refine v_lstore 90 [1, 2, 3, 4, 5, 6, 7, 8, 0] rfl (by decide) rfl ?_
    show V miX12_middle (d + 1) 142 [(0, .ref 53), (1, I_ x1), (2, I_ x2), (3, L_ x3), (5, L_ x5), (7, I_ x7), (8, I_ ((8 * x1) + x7)), (9, I_ y10), (10, L_ y21)] [] n (W0 dy) g 0 0 P
    refine v_lload_n 91 3 rfl rfl rfl ?_
    refine v_lload 92 8 rfl rfl ?_
    refine v_ladd 93 rfl ?_
    refine v_lstore_n 94 [1, 2, 3, 0, 4, 5, 6, 7, 8] rfl rfl (by decide) rfl ?_
    show V miX12_middle (d + 1) 147 [(0, .ref 53), (1, I_ x1), (2, I_ x2), (3, L_ (x3 + y21)), (5, L_ x5), (7, I_ x7), (8, I_ ((8 * x1) + x7)), (9, I_ y10), (10, L_ y21)] [] n (W0 dy) g 0 0 P
    refine v_lload 95 4 rfl rfl ?_
    refine v_lload 96 8 rfl rfl ?_
    refine v_iload_n 97 2 rfl rfl rfl ?_
    refine v_iconst 98 rfl ?_
    have c22 := h.1
    have h := h.2
    refine v_icmp_ge 99 rfl (tgt := 174) rfl c22 (by decide) (fun q23 => ?_) (fun q23 => ?_)
    · have h := h.1 q23
      refine v_aload_n 110 0 rfl rfl rfl ?_
      refine v_gK 111 rfl fl12_59_11.r (al 53 rfl hn) (wk53 dy) (by decide) rfl (r := 70) (wc53_19 dy) ?_
      refine v_iload 112 6 rfl rfl ?_
      refine v_ia (N := 480) 113 rfl (al 70 rfl hn) (wk70 dy) (wn70 dy) (by decide) c11 (y := g 70 (((8 * x1) + x7).toNat)) rfl ?_
      refine v_rng fun w24 => ?_
      have p25 : i3 (g 70 (((8 * x1) + x7).toNat)) := rI w24 (q := (((8 * x1) + x7).toNat)) (al 70 rfl hn) (wk70 dy) rfl rfl
      refine v_aload_n 114 0 rfl rfl rfl ?_
      refine v_gK 115 rfl fl12_59_11.r (al 53 rfl hn) (wk53 dy) (by decide) rfl (r := 70) (wc53_19 dy) ?_
      refine v_iload 116 7 rfl rfl ?_
      refine v_ia (N := 480) 117 rfl (al 70 rfl hn) (wk70 dy) (wn70 dy) (by decide) c14 (y := g 70 y10.toNat) rfl ?_
      refine v_rng fun w26 => ?_
      have p27 : i3 (g 70 y10.toNat) := rI w26 (q := y10.toNat) (al 70 rfl hn) (wk70 dy) rfl rfl
      refine v_iadd 118 rfl ?_
      have c28 := h.1
      have h := h.2
      refine v_i2l 119 rfl c28 ?_
      refine v_lmul 120 rfl ?_
      refine v_ladd 121 rfl ?_
      refine v_nmL (fun y29 ey29 => ?_)
      have h := h y29 ey29
      refine v_lstore 122 [1, 2, 3, 4, 0, 5, 6, 7, 8] rfl (by decide) rfl ?_
      refine v_iinc 123 5 [1, 2, 3, 4, 5, 0, 6, 7, 8] rfl rfl (by decide) rfl ?_
      refine v_goto 124 rfl (tgt := 67) rfl ?_
      refine v_loc [0, 1, 2, 3, 4, 5] rfl ?_
      exact h
    · have h := h.2 q23
      refine v_aload_n 100 0 rfl rfl rfl ?_
      refine v_gK 101 rfl fl12_56_11.r (al 53 rfl hn) (wk53 dy) (by decide) rfl (r := 69) (wc53_18 dy) ?_
      refine v_iload 102 6 rfl rfl ?_
      refine v_ia (N := 480) 103 rfl (al 69 rfl hn) (wk69 dy) (wn69 dy) (by decide) c11 (y := g 69 (((8 * x1) + x7).toNat)) rfl ?_
      refine v_rng fun w30 => ?_
      have p31 : i3 (g 69 (((8 * x1) + x7).toNat)) := rI w30 (q := (((8 * x1) + x7).toNat)) (al 69 rfl hn) (wk69 dy) rfl rfl
      refine v_aload_n 104 0 rfl rfl rfl ?_
      refine v_gK 105 rfl fl12_56_11.r (al 53 rfl hn) (wk53 dy) (by decide) rfl (r := 69) (wc53_18 dy) ?_
      refine v_iload 106 7 rfl rfl ?_
      refine v_ia (N := 480) 107 rfl (al 69 rfl hn) (wk69 dy) (wn69 dy) (by decide) c14 (y := g 69 y10.toNat) rfl ?_
      refine v_rng fun w32 => ?_
      have p33 : i3 (g 69 y10.toNat) := rI w32 (q := y10.toNat) (al 69 rfl hn) (wk69 dy) rfl rfl
      refine v_iadd 108 rfl ?_
      refine v_goto 109 rfl (tgt := 189) rfl ?_
      have c34 := h.1
      have h := h.2
      refine v_i2l 119 rfl c34 ?_
      refine v_lmul 120 rfl ?_
      refine v_ladd 121 rfl ?_
      refine v_nmL (fun y35 ey35 => ?_)
      have h := h y35 ey35
      refine v_lstore 122 [1, 2, 3, 4, 0, 5, 6, 7, 8] rfl (by decide) rfl ?_
      refine v_iinc 123 5 [1, 2, 3, 4, 5, 0, 6, 7, 8] rfl rfl (by decide) rfl ?_
      refine v_goto 124 rfl (tgt := 67) rfl ?_
      refine v_loc [0, 1, 2, 3, 4, 5] rfl ?_
      exact h
