/-! SHAPES OF THE REFERENCE: the steps whose products may run over -/
section ShapesW
variable {M : MI} {d pc k z n : Nat} {L : List (Nat × Value)} {st : List Value} {S : Nat → Shp} {g : Hp} {P : Pst}
theorem v_wrL {x : Int} (h : V M d pc L (L_ (bm6 x) :: st) n S g k z P) : V M d pc L (L_ x :: st) n S g k z P := by rw [← bm6_L]; exact h
end ShapesW
set_option maxHeartbeats 8000000 in
set_option maxRecDepth 4000 in
theorem bX12_shapes_97w {d n : Nat} {dy : Nat → Shp} {g : Hp} {P : Pst} {x1 : Int} {x2 : Int} {x3 : Int} {xs1 : Int} {xs2 : Int} {xs3 : Int} (hn : 100 ≤ n) (h : (i3 xs3) ∧ (0 ≤ xs1 ∧ xs1 < 8) ∧ (i6 (bm6 (xs2 * xs3))) ∧ (0 ≤ x3 ∧ x3 < 60) ∧ ∀ y11 : Int, y11 = bm6 ((g 87 x3.toNat) * (g 59 x3.toNat)) → (0 ≤ g 53 41 ∧ g 53 41 < 8) ∧ (i6 y11) ∧ Runs miX12_common d [L_ ((up2 g 92 xs1.toNat (bm6 (xs2 * xs3))) 92 ((g 53 41).toNat)), L_ ((up2 (up2 g 92 xs1.toNat (bm6 (xs2 * xs3))) 93 ((g 53 41).toNat) y11) 93 ((g 53 41).toNat))] n (W0 dy) (up2 (up2 g 92 xs1.toNat (bm6 (xs2 * xs3))) 93 ((g 53 41).toNat) y11) (fun v n' S' g' => V miX12_shapes (d + 1) 144 [(0, .ref 53), (1, I_ x1), (2, I_ x2), (3, I_ x3)] (v.toList ++ []) n' S' g' 0 0 P)) : V miX12_shapes (d + 1) 97 [(0, .ref 53), (1, I_ x1), (2, I_ x2), (3, I_ x3)] [I_ xs3, L_ xs2, I_ xs1, .ref 92] n (W0 dy) g 0 0 P := by
  have c1 := h.1
  have h := h.2
  refine v_i2l 61 rfl c1 ?_
  refine v_lmul 62 rfl ?_
  refine v_wrL ?_
  have c2 := h.1
  have h := h.2
  have c3 := h.1
  have h := h.2
  refine v_last (N := 8) 63 rfl (al 92 rfl hn) (wk92 dy) (wn92 dy) (by decide) c2 c3 ?_
  refine v_aload_n 64 0 rfl rfl rfl ?_
  refine v_gK 65 rfl fl12_130_11.r (al 53 rfl hn) (wk53 dy) (by decide) rfl (r := 93) (wc53_50 dy) ?_
  refine v_aload_n 66 0 rfl rfl rfl ?_
  refine v_gI 67 rfl fl12_340_11.r (al 53 rfl hn) (wk53 dy) (by decide) rfl (wc53_41 dy) (x := g 53 41) rfl ?_
  refine v_rng fun w4 => ?_
  have p5 : i3 (g 53 41) := rI w4 (q := 41) (al 53 rfl hn) (wk53 dy) rfl rfl
  refine v_aload_n 68 0 rfl rfl rfl ?_
  refine v_gK 69 rfl fl12_112_11.r (al 53 rfl hn) (wk53 dy) (by decide) rfl (r := 87) (wc53_44 dy) ?_
  refine v_iload_n 70 3 rfl rfl rfl ?_
  have c6 := h.1
  have h := h.2
  refine v_la (N := 60) 71 rfl (al 87 rfl hn) (wk87 dy) (wn87 dy) (by decide) c6 (y := g 87 x3.toNat) rfl ?_
  refine v_rng fun w7 => ?_
  have p8 : i6 (g 87 x3.toNat) := rL w7 (q := x3.toNat) (al 87 rfl hn) (wk87 dy) rfl rfl
  refine v_aload_n 72 0 rfl rfl rfl ?_
  refine v_gK 73 rfl fl12_26_11.r (al 53 rfl hn) (wk53 dy) (by decide) rfl (r := 59) (wc53_8 dy) ?_
  refine v_iload_n 74 3 rfl rfl rfl ?_
  refine v_ia (N := 60) 75 rfl (al 59 rfl hn) (wk59 dy) (wn59 dy) (by decide) c6 (y := g 59 x3.toNat) rfl ?_
  refine v_rng fun w9 => ?_
  have p10 : i3 (g 59 x3.toNat) := rI w9 (q := x3.toNat) (al 59 rfl hn) (wk59 dy) rfl rfl
  refine v_i2l 76 rfl p10 ?_
  refine v_lmul 77 rfl ?_
  refine v_wrL ?_
  refine v_nmL (fun y11 ey11 => ?_)
  have h := h y11 ey11
  have c12 := h.1
  have h := h.2
  have c13 := h.1
  have h := h.2
  refine v_last (N := 8) 78 rfl (al 93 rfl hn) (wk93 dy) (wn93 dy) (by decide) c12 c13 ?_
  refine v_aload_n 79 0 rfl rfl rfl ?_
  refine v_gK 80 rfl fl12_127_11.r (al 53 rfl hn) (wk53 dy) (by decide) rfl (r := 92) (wc53_49 dy) ?_
  refine v_aload_n 81 0 rfl rfl rfl ?_
  refine v_gI 82 rfl fl12_340_11.r (al 53 rfl hn) (wk53 dy) (by decide) rfl (wc53_41 dy) (x := g 53 41) rfl ?_
  refine v_rng fun w14 => ?_
  have p15 : i3 (g 53 41) := rI w14 (q := 41) (al 53 rfl hn) (wk53 dy) rfl rfl
  refine v_la (N := 8) 83 rfl (al 92 rfl hn) (wk92 dy) (wn92 dy) (by decide) c12 (y := (up2 g 92 xs1.toNat (bm6 (xs2 * xs3))) 92 ((g 53 41).toNat)) rfl ?_
  refine v_rng fun w16 => ?_
  have p17 : i6 ((up2 g 92 xs1.toNat (bm6 (xs2 * xs3))) 92 ((g 53 41).toNat)) := rL w16 (q := ((g 53 41).toNat)) (al 92 rfl hn) (wk92 dy) rfl rfl
  refine v_aload_n 84 0 rfl rfl rfl ?_
  refine v_gK 85 rfl fl12_130_11.r (al 53 rfl hn) (wk53 dy) (by decide) rfl (r := 93) (wc53_50 dy) ?_
  refine v_aload_n 86 0 rfl rfl rfl ?_
  refine v_gI 87 rfl fl12_340_11.r (al 53 rfl hn) (wk53 dy) (by decide) rfl (wc53_41 dy) (x := g 53 41) rfl ?_
  refine v_rng fun w18 => ?_
  have p19 : i3 (g 53 41) := rI w18 (q := 41) (al 53 rfl hn) (wk53 dy) rfl rfl
  refine v_la (N := 8) 88 rfl (al 93 rfl hn) (wk93 dy) (wn93 dy) (by decide) c12 (y := (up2 (up2 g 92 xs1.toNat (bm6 (xs2 * xs3))) 93 ((g 53 41).toNat) y11) 93 ((g 53 41).toNat)) rfl ?_
  refine v_rng fun w20 => ?_
  have p21 : i6 ((up2 (up2 g 92 xs1.toNat (bm6 (xs2 * xs3))) 93 ((g 53 41).toNat) y11) 93 ((g 53 41).toNat)) := rL w20 (q := ((g 53 41).toNat)) (al 93 rfl hn) (wk93 dy) rfl rfl
  refine v_callS (st := []) [L_ ((up2 g 92 xs1.toNat (bm6 (xs2 * xs3))) 92 ((g 53 41).toNat)), L_ ((up2 (up2 g 92 xs1.toNat (bm6 (xs2 * xs3))) 93 ((g 53 41).toNat) y11) 93 ((g 53 41).toNat))] 89 rfl ls12_227_shapes rfl (Nat.lt_of_lt_of_le (by decide) hn) (Nat.le_refl _) (Nat.le_refl _) ?_
  exact h
set_option maxHeartbeats 8000000 in
set_option maxRecDepth 4000 in
theorem bX12_shapes_144w {d n : Nat} {dy : Nat → Shp} {g : Hp} {P : Pst} {x1 : Int} {x2 : Int} {x3 : Int} {xs0 : Int} (hn : 100 ≤ n) (h : (0 ≤ g 53 41 ∧ g 53 41 < 8) ∧ (i6 xs0) ∧ (xs0 ≠ 0) ∧ ∀ y8 : Int, y8 = bm6 ((g 92 ((g 53 41).toNat)).tdiv xs0) → (i6 y8) ∧ (xs0 ≠ 0) ∧ ∀ y15 : Int, y15 = bm6 ((g 93 ((g 53 41).toNat)).tdiv xs0) → (i6 y15) ∧ (i3 ((g 53 41) + 1)) ∧ V miX12_shapes (d + 1) 35 [(0, .ref 53), (1, I_ x1), (2, I_ x2)] [] n (W0 dy) (up2 (up2 (up2 g 92 ((g 53 41).toNat) y8) 93 ((g 53 41).toNat) y15) 53 41 ((g 53 41) + 1)) 0 0 P) : V miX12_shapes (d + 1) 144 [(0, .ref 53), (1, I_ x1), (2, I_ x2), (3, I_ x3)] [L_ xs0] n (W0 dy) g 0 0 P := by
  refine v_lstore 90 [1, 2, 3, 4, 0] rfl (by decide) rfl ?_
  refine v_aload_n 91 0 rfl rfl rfl ?_
  refine v_gK 92 rfl fl12_127_11.r (al 53 rfl hn) (wk53 dy) (by decide) rfl (r := 92) (wc53_49 dy) ?_
  refine v_aload_n 93 0 rfl rfl rfl ?_
  refine v_gI 94 rfl fl12_340_11.r (al 53 rfl hn) (wk53 dy) (by decide) rfl (wc53_41 dy) (x := g 53 41) rfl ?_
  refine v_rng fun w1 => ?_
  have p2 : i3 (g 53 41) := rI w1 (q := 41) (al 53 rfl hn) (wk53 dy) rfl rfl
  refine v_dup2 95 rfl (by intro h; cases h) (by intro h; cases h) ?_
  have c3 := h.1
  have h := h.2
  refine v_la (N := 8) 96 rfl (al 92 rfl hn) (wk92 dy) (wn92 dy) (by decide) c3 (y := g 92 ((g 53 41).toNat)) rfl ?_
  refine v_rng fun w4 => ?_
  have p5 : i6 (g 92 ((g 53 41).toNat)) := rL w4 (q := ((g 53 41).toNat)) (al 92 rfl hn) (wk92 dy) rfl rfl
  refine v_lload 97 4 rfl rfl ?_
  have c6 := h.1
  have h := h.2
  have c7 := h.1
  have h := h.2
  refine v_ldiv 98 rfl p5 c6 c7 ?_
  refine v_wrL ?_
  refine v_nmL (fun y8 ey8 => ?_)
  have h := h y8 ey8
  have c9 := h.1
  have h := h.2
  refine v_last (N := 8) 99 rfl (al 92 rfl hn) (wk92 dy) (wn92 dy) (by decide) c3 c9 ?_
  refine v_aload_n 100 0 rfl rfl rfl ?_
  refine v_gK 101 rfl fl12_130_11.r (al 53 rfl hn) (wk53 dy) (by decide) rfl (r := 93) (wc53_50 dy) ?_
  refine v_aload_n 102 0 rfl rfl rfl ?_
  refine v_gI 103 rfl fl12_340_11.r (al 53 rfl hn) (wk53 dy) (by decide) rfl (wc53_41 dy) (x := g 53 41) rfl ?_
  refine v_rng fun w10 => ?_
  have p11 : i3 (g 53 41) := rI w10 (q := 41) (al 53 rfl hn) (wk53 dy) rfl rfl
  refine v_dup2 104 rfl (by intro h; cases h) (by intro h; cases h) ?_
  refine v_la (N := 8) 105 rfl (al 93 rfl hn) (wk93 dy) (wn93 dy) (by decide) c3 (y := g 93 ((g 53 41).toNat)) rfl ?_
  refine v_rng fun w12 => ?_
  have p13 : i6 (g 93 ((g 53 41).toNat)) := rL w12 (q := ((g 53 41).toNat)) (al 93 rfl hn) (wk93 dy) rfl rfl
  refine v_lload 106 4 rfl rfl ?_
  have c14 := h.1
  have h := h.2
  refine v_ldiv 107 rfl p13 c6 c14 ?_
  refine v_wrL ?_
  refine v_nmL (fun y15 ey15 => ?_)
  have h := h y15 ey15
  have c16 := h.1
  have h := h.2
  refine v_last (N := 8) 108 rfl (al 93 rfl hn) (wk93 dy) (wn93 dy) (by decide) c3 c16 ?_
  refine v_aload_n 109 0 rfl rfl rfl ?_
  refine v_dup 110 rfl (by intro h; cases h) ?_
  refine v_gI 111 rfl fl12_340_11.r (al 53 rfl hn) (wk53 dy) (by decide) rfl (wc53_41 dy) (x := g 53 41) rfl ?_
  refine v_rng fun w17 => ?_
  have p18 : i3 (g 53 41) := rI w17 (q := 41) (al 53 rfl hn) (wk53 dy) rfl rfl
  refine v_iconst 112 rfl ?_
  refine v_iadd 113 rfl ?_
  have c19 := h.1
  have h := h.2
  refine v_putI 114 rfl fl12_340_11 (al 53 rfl hn) (wk53 dy) (by decide) rfl (wc53_41 dy) c19 ?_
  refine v_goto 115 rfl (tgt := 35) rfl ?_
  refine v_loc [0, 1, 2] rfl ?_
  exact h
set_option maxHeartbeats 8000000 in
set_option maxRecDepth 4000 in
theorem bX12_shapes_311w {d n : Nat} {dy : Nat → Shp} {g : Hp} {P : Pst} {x1 : Int} {x2 : Int} {x3 : Int} {x4 : Int} {x5 : Int} {xs1 : Int} {xs2 : Int} {xs3 : Int} (hn : 100 ≤ n) (h : (i3 xs3) ∧ (0 ≤ xs1 ∧ xs1 < 60) ∧ (i6 (bm6 (xs2 * xs3))) ∧ (0 ≤ x3 ∧ x3 < 60) ∧ ∀ y9 : Int, y9 = bm6 ((g 87 x3.toNat) * (g 59 x3.toNat)) → (0 ≤ x5 ∧ x5 < 60) ∧ (i6 y9) ∧ Runs miX12_common d [L_ ((up2 g 86 xs1.toNat (bm6 (xs2 * xs3))) 86 x5.toNat), L_ ((up2 (up2 g 86 xs1.toNat (bm6 (xs2 * xs3))) 87 x5.toNat y9) 87 x5.toNat)] n (W0 dy) (up2 (up2 g 86 xs1.toNat (bm6 (xs2 * xs3))) 87 x5.toNat y9) (fun v n' S' g' => V miX12_shapes (d + 1) 352 [(0, .ref 53), (1, I_ x1), (2, I_ x2), (3, I_ x3), (4, I_ x4), (5, I_ x5)] (v.toList ++ []) n' S' g' 0 0 P)) : V miX12_shapes (d + 1) 311 [(0, .ref 53), (1, I_ x1), (2, I_ x2), (3, I_ x3), (4, I_ x4), (5, I_ x5)] [I_ xs3, L_ xs2, I_ xs1, .ref 86] n (W0 dy) g 0 0 P := by
  have c1 := h.1
  have h := h.2
  refine v_i2l 182 rfl c1 ?_
  refine v_lmul 183 rfl ?_
  refine v_wrL ?_
  have c2 := h.1
  have h := h.2
  have c3 := h.1
  have h := h.2
  refine v_last (N := 60) 184 rfl (al 86 rfl hn) (wk86 dy) (wn86 dy) (by decide) c2 c3 ?_
  refine v_aload_n 185 0 rfl rfl rfl ?_
  refine v_gK 186 rfl fl12_112_11.r (al 53 rfl hn) (wk53 dy) (by decide) rfl (r := 87) (wc53_44 dy) ?_
  refine v_iload 187 5 rfl rfl ?_
  refine v_aload_n 188 0 rfl rfl rfl ?_
  refine v_gK 189 rfl fl12_112_11.r (al 53 rfl hn) (wk53 dy) (by decide) rfl (r := 87) (wc53_44 dy) ?_
  refine v_iload_n 190 3 rfl rfl rfl ?_
  have c4 := h.1
  have h := h.2
  refine v_la (N := 60) 191 rfl (al 87 rfl hn) (wk87 dy) (wn87 dy) (by decide) c4 (y := g 87 x3.toNat) rfl ?_
  refine v_rng fun w5 => ?_
  have p6 : i6 (g 87 x3.toNat) := rL w5 (q := x3.toNat) (al 87 rfl hn) (wk87 dy) rfl rfl
  refine v_aload_n 192 0 rfl rfl rfl ?_
  refine v_gK 193 rfl fl12_26_11.r (al 53 rfl hn) (wk53 dy) (by decide) rfl (r := 59) (wc53_8 dy) ?_
  refine v_iload_n 194 3 rfl rfl rfl ?_
  refine v_ia (N := 60) 195 rfl (al 59 rfl hn) (wk59 dy) (wn59 dy) (by decide) c4 (y := g 59 x3.toNat) rfl ?_
  refine v_rng fun w7 => ?_
  have p8 : i3 (g 59 x3.toNat) := rI w7 (q := x3.toNat) (al 59 rfl hn) (wk59 dy) rfl rfl
  refine v_i2l 196 rfl p8 ?_
  refine v_lmul 197 rfl ?_
  refine v_wrL ?_
  refine v_nmL (fun y9 ey9 => ?_)
  have h := h y9 ey9
  have c10 := h.1
  have h := h.2
  have c11 := h.1
  have h := h.2
  refine v_last (N := 60) 198 rfl (al 87 rfl hn) (wk87 dy) (wn87 dy) (by decide) c10 c11 ?_
  refine v_aload_n 199 0 rfl rfl rfl ?_
  refine v_gK 200 rfl fl12_109_11.r (al 53 rfl hn) (wk53 dy) (by decide) rfl (r := 86) (wc53_43 dy) ?_
  refine v_iload 201 5 rfl rfl ?_
  refine v_la (N := 60) 202 rfl (al 86 rfl hn) (wk86 dy) (wn86 dy) (by decide) c10 (y := (up2 g 86 xs1.toNat (bm6 (xs2 * xs3))) 86 x5.toNat) rfl ?_
  refine v_rng fun w12 => ?_
  have p13 : i6 ((up2 g 86 xs1.toNat (bm6 (xs2 * xs3))) 86 x5.toNat) := rL w12 (q := x5.toNat) (al 86 rfl hn) (wk86 dy) rfl rfl
  refine v_aload_n 203 0 rfl rfl rfl ?_
  refine v_gK 204 rfl fl12_112_11.r (al 53 rfl hn) (wk53 dy) (by decide) rfl (r := 87) (wc53_44 dy) ?_
  refine v_iload 205 5 rfl rfl ?_
  refine v_la (N := 60) 206 rfl (al 87 rfl hn) (wk87 dy) (wn87 dy) (by decide) c10 (y := (up2 (up2 g 86 xs1.toNat (bm6 (xs2 * xs3))) 87 x5.toNat y9) 87 x5.toNat) rfl ?_
  refine v_rng fun w14 => ?_
  have p15 : i6 ((up2 (up2 g 86 xs1.toNat (bm6 (xs2 * xs3))) 87 x5.toNat y9) 87 x5.toNat) := rL w14 (q := x5.toNat) (al 87 rfl hn) (wk87 dy) rfl rfl
  refine v_callS (st := []) [L_ ((up2 g 86 xs1.toNat (bm6 (xs2 * xs3))) 86 x5.toNat), L_ ((up2 (up2 g 86 xs1.toNat (bm6 (xs2 * xs3))) 87 x5.toNat y9) 87 x5.toNat)] 207 rfl ls12_227_shapes rfl (Nat.lt_of_lt_of_le (by decide) hn) (Nat.le_refl _) (Nat.le_refl _) ?_
  exact h
set_option maxHeartbeats 8000000 in
set_option maxRecDepth 4000 in
theorem bX12_shapes_352w {d n : Nat} {dy : Nat → Shp} {g : Hp} {P : Pst} {x1 : Int} {x2 : Int} {x3 : Int} {x4 : Int} {x5 : Int} {xs0 : Int} (hn : 100 ≤ n) (h : (0 ≤ x5 ∧ x5 < 60) ∧ (i6 xs0) ∧ (xs0 ≠ 0) ∧ ∀ y1 : Int, y1 = bm6 ((g 86 x5.toNat).tdiv xs0) → (i6 y1) ∧ (xs0 ≠ 0) ∧ ∀ y2 : Int, y2 = bm6 ((g 87 x5.toNat).tdiv xs0) → (i6 y2) ∧ ∀ y3 : Int, y3 = bm6 (10000000 * ((up2 g 86 x5.toNat y1) 86 x5.toNat)) → (i6 y3) ∧ ((((up2 (up2 g 86 x5.toNat y1) 87 x5.toNat y2) 87 x5.toNat) ≤ y3) → V miX12_shapes (d + 1) 218 [(0, .ref 53), (1, I_ x1), (2, I_ x2), (3, I_ x3), (4, I_ (x4 + (-1)))] [] n (W0 dy) (up2 (up2 g 86 x5.toNat y1) 87 x5.toNat y2) 0 0 P) ∧ ((y3 < ((up2 (up2 g 86 x5.toNat y1) 87 x5.toNat y2) 87 x5.toNat)) → Runs miX12_shapesOn d [.ref 53, I_ x1] n (W0 dy) (up2 (up2 g 86 x5.toNat y1) 87 x5.toNat y2) (fun v n' S' g' => V miX12_shapes (d + 1) 405 [(0, .ref 53), (1, I_ x1), (2, I_ x2), (3, I_ x3), (4, I_ x4), (5, I_ x5), (6, L_ xs0)] (v.toList ++ []) n' S' g' 0 0 P))) : V miX12_shapes (d + 1) 352 [(0, .ref 53), (1, I_ x1), (2, I_ x2), (3, I_ x3), (4, I_ x4), (5, I_ x5)] [L_ xs0] n (W0 dy) g 0 0 P := by
  refine v_lstore 208 [1, 2, 3, 4, 5, 6, 0] rfl (by decide) rfl ?_
  refine v_aload_n 209 0 rfl rfl rfl ?_
  refine v_gK 210 rfl fl12_109_11.r (al 53 rfl hn) (wk53 dy) (by decide) rfl (r := 86) (wc53_43 dy) ?_
  refine v_iload 211 5 rfl rfl ?_
  refine v_dup2 212 rfl (by intro h; cases h) (by intro h; cases h) ?_
  have c1 := h.1
  have h := h.2
  refine v_la (N := 60) 213 rfl (al 86 rfl hn) (wk86 dy) (wn86 dy) (by decide) c1 (y := g 86 x5.toNat) rfl ?_
  refine v_rng fun w2 => ?_
  have p3 : i6 (g 86 x5.toNat) := rL w2 (q := x5.toNat) (al 86 rfl hn) (wk86 dy) rfl rfl
  refine v_lload 214 6 rfl rfl ?_
  have c4 := h.1
  have h := h.2
  have c5 := h.1
  have h := h.2
  refine v_ldiv 215 rfl p3 c4 c5 ?_
  refine v_wrL ?_
  refine v_nmL (fun y1 ey1 => ?_)
  have h := h y1 ey1
  have c6 := h.1
  have h := h.2
  refine v_last (N := 60) 216 rfl (al 86 rfl hn) (wk86 dy) (wn86 dy) (by decide) c1 c6 ?_
  refine v_aload_n 217 0 rfl rfl rfl ?_
  refine v_gK 218 rfl fl12_112_11.r (al 53 rfl hn) (wk53 dy) (by decide) rfl (r := 87) (wc53_44 dy) ?_
  refine v_iload 219 5 rfl rfl ?_
  refine v_dup2 220 rfl (by intro h; cases h) (by intro h; cases h) ?_
  refine v_la (N := 60) 221 rfl (al 87 rfl hn) (wk87 dy) (wn87 dy) (by decide) c1 (y := g 87 x5.toNat) rfl ?_
  refine v_rng fun w7 => ?_
  have p8 : i6 (g 87 x5.toNat) := rL w7 (q := x5.toNat) (al 87 rfl hn) (wk87 dy) rfl rfl
  refine v_lload 222 6 rfl rfl ?_
  have c9 := h.1
  have h := h.2
  refine v_ldiv 223 rfl p8 c4 c9 ?_
  refine v_wrL ?_
  refine v_nmL (fun y2 ey2 => ?_)
  have h := h y2 ey2
  have c10 := h.1
  have h := h.2
  refine v_last (N := 60) 224 rfl (al 87 rfl hn) (wk87 dy) (wn87 dy) (by decide) c1 c10 ?_
  refine v_aload_n 225 0 rfl rfl rfl ?_
  refine v_gK 226 rfl fl12_112_11.r (al 53 rfl hn) (wk53 dy) (by decide) rfl (r := 87) (wc53_44 dy) ?_
  refine v_iload 227 5 rfl rfl ?_
  refine v_la (N := 60) 228 rfl (al 87 rfl hn) (wk87 dy) (wn87 dy) (by decide) c1 (y := (up2 (up2 g 86 x5.toNat y1) 87 x5.toNat y2) 87 x5.toNat) rfl ?_
  refine v_rng fun w11 => ?_
  have p12 : i6 ((up2 (up2 g 86 x5.toNat y1) 87 x5.toNat y2) 87 x5.toNat) := rL w11 (q := x5.toNat) (al 87 rfl hn) (wk87 dy) rfl rfl
  refine v_ldc2 (v := 10000000) 229 rfl (tbG_in (List.mem_append_right _ (List.mem_of_getElem? (i := 1606) (by decide +kernel))) rfl) ?_
  refine v_aload_n 230 0 rfl rfl rfl ?_
  refine v_gK 231 rfl fl12_109_11.r (al 53 rfl hn) (wk53 dy) (by decide) rfl (r := 86) (wc53_43 dy) ?_
  refine v_iload 232 5 rfl rfl ?_
  refine v_la (N := 60) 233 rfl (al 86 rfl hn) (wk86 dy) (wn86 dy) (by decide) c1 (y := (up2 g 86 x5.toNat y1) 86 x5.toNat) rfl ?_
  refine v_rng fun w13 => ?_
  have p14 : i6 ((up2 g 86 x5.toNat y1) 86 x5.toNat) := rL w13 (q := x5.toNat) (al 86 rfl hn) (wk86 dy) rfl rfl
  refine v_lmul 234 rfl ?_
  refine v_wrL ?_
  refine v_nmL (fun y3 ey3 => ?_)
  have h := h y3 ey3
  have c15 := h.1
  have h := h.2
  refine v_lif_le 235 rfl rfl (tgt := 406) rfl p12 c15 (fun q16 => ?_) (fun q16 => ?_)
  · have h := h.1 q16
    refine v_iinc 241 4 [1, 2, 3, 4, 0, 5, 6] rfl rfl (by decide) rfl ?_
    refine v_goto 242 rfl (tgt := 218) rfl ?_
    refine v_loc [0, 1, 2, 3, 4] rfl ?_
    exact h
  · have h := h.2 q16
    refine v_aload_n 237 0 rfl rfl rfl ?_
    refine v_iload_n 238 1 rfl rfl rfl ?_
    refine v_callV (st := []) [I_ x1] 239 rfl lv12_345_shapes_11 (al 53 rfl hn) (wk53 dy) (by decide) rfl (Nat.le_refl _) (Nat.le_refl _) ?_
    exact h
section CommonW
variable {d n : Nat} {dy : Nat → Shp} {g : Hp} {P : Pst}
theorem spX12_commonW {x y : Int} (hn : 100 ≤ n) (hx : i6 x) (hy : i6 y) (h : ∀ c : Int, i6 c → c.natAbs = Int.gcd x y → (0 ≤ x → 0 ≤ y → 0 ≤ c) → P (some (L_ c)) n (W0 dy) g) : Runs miX12_common (d + 1) [L_ x, L_ y] n (W0 dy) g P := by
  have key : ∀ (f : Nat) (k m : Int), k.natAbs ≤ f → i6 k → i6 m → Int.gcd m k = Int.gcd x y → (0 ≤ x → 0 ≤ y → 0 ≤ m ∧ 0 ≤ k) → V miX12_common (d + 1) 12 [(0, L_ x), (2, L_ y), (4, L_ m), (6, L_ k)] [] n (W0 dy) g 0 0 P := by
    intro f
    induction f with
    | zero =>
      intro k m hk hk6 hm6 hg hs
      have e : k = 0 := by omega
      subst e
      rw [Int.gcd_zero_right] at hg
      exact bX12_common_12 hn ⟨hk6, fun _ => h m hm6 hg (fun q1 q2 => (hs q1 q2).1), fun q => absurd rfl q⟩
    | succ f ih =>
      intro k m hk hk6 hm6 hg hs
      by_cases e : k = 0
      · subst e
        rw [Int.gcd_zero_right] at hg
        exact bX12_common_12 hn ⟨hk6, fun _ => h m hm6 hg (fun q1 q2 => (hs q1 q2).1), fun q => absurd rfl q⟩
      · have hlt : (m.tmod k).natAbs < k.natAbs := by
          rw [Int.natAbs_tmod]
          exact Nat.mod_lt _ (by omega)
        refine bX12_common_12 hn ⟨hk6, fun q => absurd q e, fun q => ⟨hm6, q, ?_⟩⟩
        refine ih (m.tmod k) k (by omega) ⟨by have := hk6.1; have := hk6.2; omega, by have := hk6.1; have := hk6.2; omega⟩ hk6 ?_ fun q1 q2 => ⟨(hs q1 q2).2, Int.tmod_nonneg _ (hs q1 q2).1⟩
        rw [← hg]
        show Nat.gcd k.natAbs (m.tmod k).natAbs = Nat.gcd m.natAbs k.natAbs
        rw [Int.natAbs_tmod, ← gcd_step]
  refine wX12_common hn ⟨hx, hy, ?_⟩
  rw [← bm6_L (ab x), ← bm6_L (ab y)]
  have b : ∀ x : Int, i6 x → (bm6 (ab x)).natAbs = x.natAbs ∧ (0 ≤ x → 0 ≤ bm6 (ab x)) := fun x hx => by
    rw [ab_nat]
    by_cases c : x = -9223372036854775808
    · subst c
      exact ⟨by decide, fun q => absurd q (by decide)⟩
    · rw [bm6_id ⟨by have := hx.1; have := hx.2; omega, by have := hx.1; have := hx.2; omega⟩]
      exact ⟨by omega, fun _ => by omega⟩
  refine key _ _ _ (Nat.le_refl _) (bm6_r _) (bm6_r _) ?_ fun q1 q2 => ⟨(b x hx).2 q1, (b y hy).2 q2⟩
  show Nat.gcd (bm6 (ab x)).natAbs (bm6 (ab y)).natAbs = Nat.gcd x.natAbs y.natAbs
  rw [(b x hx).1, (b y hy).1]
end CommonW
