/-! the walk of the reference's plate -/
theorem lm12_218_plate : LkM miX12_plate 218 Lib.MathLoose.abs_long.x Lib.MathLoose.abs_long.code 2 .long := ⟨tbG_in (List.mem_append_right _ (List.mem_of_getElem? (i := 1392) (by decide +kernel))) rfl, tbG_in (List.mem_append_right _ (List.mem_of_getElem? (i := 568) (by decide +kernel))) rfl, tbG_in (List.mem_append_right _ (List.mem_of_getElem? (i := 15) (by decide +kernel))) rfl, tbG_in (List.mem_append_right _ (List.mem_of_getElem? (i := 569) (by decide +kernel))) rfl⟩
theorem lv12_174_plate_11 : LkV miX12_plate miX12_refuse 174 1 11 := ⟨⟨⟨tbG_in (List.mem_append_right _ (List.mem_of_getElem? (i := 1351) (by decide +kernel))) rfl, tbG_in (List.mem_append_right _ (List.mem_of_getElem? (i := 9) (by decide +kernel))) rfl, tbG_in (List.mem_append_right _ (List.mem_of_getElem? (i := 1348) (by decide +kernel))) rfl⟩, ⟨by decide +kernel, by decide +kernel, by decide +kernel⟩, by decide⟩, tbG_in (List.mem_append_right _ (List.mem_of_getElem? (i := 1350) (by decide +kernel))) rfl, RX12, TX12, 58, rfl, tbG_in (List.mem_append_left _ (List.mem_of_getElem? (i := 50) (by decide +kernel))) rfl⟩
theorem lv12_215_plate_11 : LkV miX12_plate miX12_isRing 215 1 11 := ⟨⟨⟨tbG_in (List.mem_append_right _ (List.mem_of_getElem? (i := 1374) (by decide +kernel))) rfl, tbG_in (List.mem_append_right _ (List.mem_of_getElem? (i := 9) (by decide +kernel))) rfl, tbG_in (List.mem_append_right _ (List.mem_of_getElem? (i := 1371) (by decide +kernel))) rfl⟩, ⟨by decide +kernel, by decide +kernel, by decide +kernel⟩, by decide⟩, tbG_in (List.mem_append_right _ (List.mem_of_getElem? (i := 1373) (by decide +kernel))) rfl, RX12, TX12, 58, rfl, tbG_in (List.mem_append_left _ (List.mem_of_getElem? (i := 52) (by decide +kernel))) rfl⟩
theorem lv12_178_plate_11 : LkV miX12_plate miX12_newPart 178 2 11 := ⟨⟨⟨tbG_in (List.mem_append_right _ (List.mem_of_getElem? (i := 1355) (by decide +kernel))) rfl, tbG_in (List.mem_append_right _ (List.mem_of_getElem? (i := 9) (by decide +kernel))) rfl, tbG_in (List.mem_append_right _ (List.mem_of_getElem? (i := 1352) (by decide +kernel))) rfl⟩, ⟨by decide +kernel, by decide +kernel, by decide +kernel⟩, by decide⟩, tbG_in (List.mem_append_right _ (List.mem_of_getElem? (i := 1354) (by decide +kernel))) rfl, RX12, TX12, 58, rfl, tbG_in (List.mem_append_left _ (List.mem_of_getElem? (i := 51) (by decide +kernel))) rfl⟩
set_option maxHeartbeats 8000000 in
set_option maxRecDepth 4000 in
theorem bX12_plate_0 {d n : Nat} {dy : Nat → Shp} {g : Hp} {P : Pst} {x1 : Int} {x2 : Int} (hn : 100 ≤ n) (h : (i3 x1) ∧ ((x1 < 0) → Runs miX12_refuse d [.ref 53, I_ 1] n (W0 dy) (up2 (up2 g 53 1 0) 53 0 0) (fun v n' S' g' => V miX12_plate (d + 1) 25 [(0, .ref 53), (1, I_ x1), (2, I_ x2)] (v.toList ++ []) n' S' g' 0 0 P)) ∧ ((0 ≤ x1) → ((x1 < 6) → (0 ≤ x1 ∧ x1 < 6) ∧ ((0 ≤ (g 55 x1.toNat)) → (i3 x2) ∧ ((x2 < 3) → Runs miX12_refuse d [.ref 53, I_ 7] n (W0 dy) (up2 (up2 g 53 1 0) 53 0 0) (fun v n' S' g' => V miX12_plate (d + 1) 58 [(0, .ref 53), (1, I_ x1), (2, I_ x2)] (v.toList ++ []) n' S' g' 0 0 P)) ∧ ((3 ≤ x2) → ((x2 ≤ 8) → (i3 (2 * x2)) ∧ (((2 * x2) ≤ (g 55 x1.toNat)) → V miX12_plate (d + 1) 79 [(0, .ref 53), (1, I_ x1), (2, I_ x2), (3, I_ 0)] [] n (W0 dy) (up2 (up2 g 53 1 0) 53 0 0) 0 0 P) ∧ (((g 55 x1.toNat) < (2 * x2)) → Runs miX12_refuse d [.ref 53, I_ 4] n (W0 dy) (up2 (up2 g 53 1 0) 53 0 0) (fun v n' S' g' => V miX12_plate (d + 1) 76 [(0, .ref 53), (1, I_ x1), (2, I_ x2)] (v.toList ++ []) n' S' g' 0 0 P))) ∧ ((8 < x2) → Runs miX12_refuse d [.ref 53, I_ 7] n (W0 dy) (up2 (up2 g 53 1 0) 53 0 0) (fun v n' S' g' => V miX12_plate (d + 1) 58 [(0, .ref 53), (1, I_ x1), (2, I_ x2)] (v.toList ++ []) n' S' g' 0 0 P)))) ∧ (((g 55 x1.toNat) < 0) → Runs miX12_refuse d [.ref 53, I_ 3] n (W0 dy) (up2 (up2 g 53 1 0) 53 0 0) (fun v n' S' g' => V miX12_plate (d + 1) 40 [(0, .ref 53), (1, I_ x1), (2, I_ x2)] (v.toList ++ []) n' S' g' 0 0 P))) ∧ ((6 ≤ x1) → Runs miX12_refuse d [.ref 53, I_ 1] n (W0 dy) (up2 (up2 g 53 1 0) 53 0 0) (fun v n' S' g' => V miX12_plate (d + 1) 25 [(0, .ref 53), (1, I_ x1), (2, I_ x2)] (v.toList ++ []) n' S' g' 0 0 P)))) : V miX12_plate (d + 1) 0 [(0, .ref 53), (1, I_ x1), (2, I_ x2)] [] n (W0 dy) g 0 0 P := by
  refine v_aload_n 0 0 rfl rfl rfl ?_
  refine v_iconst 1 rfl ?_
  refine v_putI 2 rfl fl12_148_11 (al 53 rfl hn) (wk53 dy) (by decide) rfl (wc53_1 dy) (by decide) ?_
  refine v_aload_n 3 0 rfl rfl rfl ?_
  refine v_iconst 4 rfl ?_
  refine v_putI 5 rfl fl12_152_11 (al 53 rfl hn) (wk53 dy) (by decide) rfl (wc53_0 dy) (by decide) ?_
  refine v_iload_n 6 1 rfl rfl rfl ?_
  have c1 := h.1
  have h := h.2
  refine v_if_lt 7 rfl (tgt := 20) rfl c1 (fun q2 => ?_) (fun q2 => ?_)
  · have h := h.1 q2
    refine v_aload_n 11 0 rfl rfl rfl ?_
    refine v_iconst 12 rfl ?_
    refine v_callV (st := []) [I_ 1] 13 rfl lv12_174_plate_11 (al 53 rfl hn) (wk53 dy) (by decide) rfl (Nat.le_refl _) (Nat.le_refl _) ?_
    exact h
  · have h := h.2 q2
    refine v_iload_n 8 1 rfl rfl rfl ?_
    refine v_bipush 9 rfl (by decide) ?_
    refine v_icmp_lt 10 rfl (tgt := 26) rfl c1 (by decide) (fun q3 => ?_) (fun q3 => ?_)
    · have h := h.1 q3
      refine v_aload_n 15 0 rfl rfl rfl ?_
      refine v_gK 16 rfl fl12_13_11.r (al 53 rfl hn) (wk53 dy) (by decide) rfl (r := 55) (wc53_3 dy) ?_
      refine v_iload_n 17 1 rfl rfl rfl ?_
      have c4 := h.1
      have h := h.2
      refine v_ia (N := 6) 18 rfl (al 55 rfl hn) (wk55 dy) (wn55 dy) (by decide) c4 (y := g 55 x1.toNat) rfl ?_
      refine v_rng fun w5 => ?_
      have p6 : i3 (g 55 x1.toNat) := rI w5 (q := x1.toNat) (al 55 rfl hn) (wk55 dy) rfl rfl
      refine v_if_ge 19 rfl (tgt := 41) rfl p6 (fun q7 => ?_) (fun q7 => ?_)
      · have h := h.1 q7
        refine v_iload_n 24 2 rfl rfl rfl ?_
        refine v_iconst 25 rfl ?_
        have c8 := h.1
        have h := h.2
        refine v_icmp_lt 26 rfl (tgt := 52) rfl c8 (by decide) (fun q9 => ?_) (fun q9 => ?_)
        · have h := h.1 q9
          refine v_aload_n 30 0 rfl rfl rfl ?_
          refine v_bipush 31 rfl (by decide) ?_
          refine v_callV (st := []) [I_ 7] 32 rfl lv12_174_plate_11 (al 53 rfl hn) (wk53 dy) (by decide) rfl (Nat.le_refl _) (Nat.le_refl _) ?_
          exact h
        · have h := h.2 q9
          refine v_iload_n 27 2 rfl rfl rfl ?_
          refine v_bipush 28 rfl (by decide) ?_
          refine v_icmp_le 29 rfl (tgt := 59) rfl c8 (by decide) (fun q10 => ?_) (fun q10 => ?_)
          · have h := h.1 q10
            refine v_iconst 34 rfl ?_
            refine v_iload_n 35 2 rfl rfl rfl ?_
            refine v_imul 36 rfl ?_
            refine v_aload_n 37 0 rfl rfl rfl ?_
            refine v_gK 38 rfl fl12_13_11.r (al 53 rfl hn) (wk53 dy) (by decide) rfl (r := 55) (wc53_3 dy) ?_
            refine v_iload_n 39 1 rfl rfl rfl ?_
            refine v_ia (N := 6) 40 rfl (al 55 rfl hn) (wk55 dy) (wn55 dy) (by decide) c4 (y := g 55 x1.toNat) rfl ?_
            refine v_rng fun w11 => ?_
            have p12 : i3 (g 55 x1.toNat) := rI w11 (q := x1.toNat) (al 55 rfl hn) (wk55 dy) rfl rfl
            have c13 := h.1
            have h := h.2
            refine v_icmp_le 41 rfl (tgt := 77) rfl c13 p12 (fun q14 => ?_) (fun q14 => ?_)
            · have h := h.1 q14
              refine v_iconst 46 rfl ?_
              refine v_istore_n 47 [1, 2, 3, 0] rfl rfl (by decide) rfl ?_
              exact h
            · have h := h.2 q14
              refine v_aload_n 42 0 rfl rfl rfl ?_
              refine v_iconst 43 rfl ?_
              refine v_callV (st := []) [I_ 4] 44 rfl lv12_174_plate_11 (al 53 rfl hn) (wk53 dy) (by decide) rfl (Nat.le_refl _) (Nat.le_refl _) ?_
              exact h
          · have h := h.2 q10
            refine v_aload_n 30 0 rfl rfl rfl ?_
            refine v_bipush 31 rfl (by decide) ?_
            refine v_callV (st := []) [I_ 7] 32 rfl lv12_174_plate_11 (al 53 rfl hn) (wk53 dy) (by decide) rfl (Nat.le_refl _) (Nat.le_refl _) ?_
            exact h
      · have h := h.2 q7
        refine v_aload_n 20 0 rfl rfl rfl ?_
        refine v_iconst 21 rfl ?_
        refine v_callV (st := []) [I_ 3] 22 rfl lv12_174_plate_11 (al 53 rfl hn) (wk53 dy) (by decide) rfl (Nat.le_refl _) (Nat.le_refl _) ?_
        exact h
    · have h := h.2 q3
      refine v_aload_n 11 0 rfl rfl rfl ?_
      refine v_iconst 12 rfl ?_
      refine v_callV (st := []) [I_ 1] 13 rfl lv12_174_plate_11 (al 53 rfl hn) (wk53 dy) (by decide) rfl (Nat.le_refl _) (Nat.le_refl _) ?_
      exact h
set_option maxHeartbeats 8000000 in
set_option maxRecDepth 4000 in
theorem bX12_plate_25 {d n : Nat} {dy : Nat → Shp} {g : Hp} {P : Pst} {x1 : Int} {x2 : Int} {xs0 : Int} (hn : 100 ≤ n) (h : P (some (I_ xs0)) n (W0 dy) g) : V miX12_plate (d + 1) 25 [(0, .ref 53), (1, I_ x1), (2, I_ x2)] [I_ xs0] n (W0 dy) g 0 0 P := by
  exact v_ret (v := some (I_ xs0)) 14 rfl (Nat.zero_le _) (Nat.zero_le _) trivial rfl h
set_option maxHeartbeats 8000000 in
set_option maxRecDepth 4000 in
theorem bX12_plate_40 {d n : Nat} {dy : Nat → Shp} {g : Hp} {P : Pst} {x1 : Int} {x2 : Int} {xs0 : Int} (hn : 100 ≤ n) (h : P (some (I_ xs0)) n (W0 dy) g) : V miX12_plate (d + 1) 40 [(0, .ref 53), (1, I_ x1), (2, I_ x2)] [I_ xs0] n (W0 dy) g 0 0 P := by
  exact v_ret (v := some (I_ xs0)) 23 rfl (Nat.zero_le _) (Nat.zero_le _) trivial rfl h
set_option maxHeartbeats 8000000 in
set_option maxRecDepth 4000 in
theorem bX12_plate_58 {d n : Nat} {dy : Nat → Shp} {g : Hp} {P : Pst} {x1 : Int} {x2 : Int} {xs0 : Int} (hn : 100 ≤ n) (h : P (some (I_ xs0)) n (W0 dy) g) : V miX12_plate (d + 1) 58 [(0, .ref 53), (1, I_ x1), (2, I_ x2)] [I_ xs0] n (W0 dy) g 0 0 P := by
  exact v_ret (v := some (I_ xs0)) 33 rfl (Nat.zero_le _) (Nat.zero_le _) trivial rfl h
set_option maxHeartbeats 8000000 in
set_option maxRecDepth 4000 in
theorem bX12_plate_76 {d n : Nat} {dy : Nat → Shp} {g : Hp} {P : Pst} {x1 : Int} {x2 : Int} {xs0 : Int} (hn : 100 ≤ n) (h : P (some (I_ xs0)) n (W0 dy) g) : V miX12_plate (d + 1) 76 [(0, .ref 53), (1, I_ x1), (2, I_ x2)] [I_ xs0] n (W0 dy) g 0 0 P := by
  exact v_ret (v := some (I_ xs0)) 45 rfl (Nat.zero_le _) (Nat.zero_le _) trivial rfl h
set_option maxHeartbeats 8000000 in
set_option maxRecDepth 4000 in
theorem bX12_plate_79 {d n : Nat} {dy : Nat → Shp} {g : Hp} {P : Pst} {x1 : Int} {x2 : Int} {x3 : Int} (hn : 100 ≤ n) (h : (i3 x3) ∧ (i3 (2 * x2)) ∧ (((2 * x2) ≤ x3) → Runs miX12_isRing d [.ref 53, I_ x2] n (W0 dy) g (fun v n' S' g' => V miX12_plate (d + 1) 166 [(0, .ref 53), (1, I_ x1), (2, I_ x2), (3, I_ x3)] (v.toList ++ []) n' S' g' 0 0 P)) ∧ ((x3 < (2 * x2)) → (0 ≤ (16 * x1) + x3 ∧ (16 * x1) + x3 < 96) ∧ ∀ y7 : Int, y7 = g 56 (((16 * x1) + x3).toNat) → ((y7 < ((-1000))) → Runs miX12_refuse d [.ref 53, I_ 7] n (W0 dy) g (fun v n' S' g' => V miX12_plate (d + 1) 123 [(0, .ref 53), (1, I_ x1), (2, I_ x2), (3, I_ x3), (4, L_ y7)] (v.toList ++ []) n' S' g' 0 0 P)) ∧ ((((-1000)) ≤ y7) → ((y7 ≤ 1000) → (i3 (x3.tmod 2)) ∧ (((x3.tmod 2) ≠ 0) → (0 ≤ x3.tdiv 2 ∧ x3.tdiv 2 < 8) ∧ (i3 y7) ∧ V miX12_plate (d + 1) 79 [(0, .ref 53), (1, I_ x1), (2, I_ x2), (3, I_ (x3 + 1))] [] n (W0 dy) (up2 g 80 ((x3.tdiv 2).toNat) y7) 0 0 P) ∧ (((x3.tmod 2) = 0) → (0 ≤ x3.tdiv 2 ∧ x3.tdiv 2 < 8) ∧ (i3 y7) ∧ V miX12_plate (d + 1) 79 [(0, .ref 53), (1, I_ x1), (2, I_ x2), (3, I_ (x3 + 1))] [] n (W0 dy) (up2 g 79 ((x3.tdiv 2).toNat) y7) 0 0 P)) ∧ ((1000 < y7) → Runs miX12_refuse d [.ref 53, I_ 7] n (W0 dy) g (fun v n' S' g' => V miX12_plate (d + 1) 123 [(0, .ref 53), (1, I_ x1), (2, I_ x2), (3, I_ x3), (4, L_ y7)] (v.toList ++ []) n' S' g' 0 0 P))))) : V miX12_plate (d + 1) 79 [(0, .ref 53), (1, I_ x1), (2, I_ x2), (3, I_ x3)] [] n (W0 dy) g 0 0 P := by
  refine v_iload_n 48 3 rfl rfl rfl ?_
  refine v_iconst 49 rfl ?_
  refine v_iload_n 50 2 rfl rfl rfl ?_
  refine v_imul 51 rfl ?_
  have c1 := h.1
  have h := h.2
  have c2 := h.1
  have h := h.2
  refine v_icmp_ge 52 rfl (tgt := 161) rfl c1 c2 (fun q3 => ?_) (fun q3 => ?_)
  · have h := h.1 q3
    refine v_aload_n 97 0 rfl rfl rfl ?_
    refine v_iload_n 98 2 rfl rfl rfl ?_
    refine v_callV (st := []) [I_ x2] 99 rfl lv12_215_plate_11 (al 53 rfl hn) (wk53 dy) (by decide) rfl (Nat.le_refl _) (Nat.le_refl _) ?_
    exact h
  · have h := h.2 q3
    refine v_aload_n 53 0 rfl rfl rfl ?_
    refine v_gK 54 rfl fl12_16_11.r (al 53 rfl hn) (wk53 dy) (by decide) rfl (r := 56) (wc53_4 dy) ?_
    refine v_bipush 55 rfl (by decide) ?_
    refine v_iload_n 56 1 rfl rfl rfl ?_
    refine v_imul 57 rfl ?_
    refine v_iload_n 58 3 rfl rfl rfl ?_
    refine v_iadd 59 rfl ?_
    have c4 := h.1
    have h := h.2
    refine v_la (N := 96) 60 rfl (al 56 rfl hn) (wk56 dy) (wn56 dy) (by decide) c4 (y := g 56 (((16 * x1) + x3).toNat)) rfl ?_
    refine v_rng fun w5 => ?_
    have p6 : i6 (g 56 (((16 * x1) + x3).toNat)) := rL w5 (q := (((16 * x1) + x3).toNat)) (al 56 rfl hn) (wk56 dy) rfl rfl
    refine v_nmL (fun y7 ey7 => ?_)
    have h := h y7 ey7
    have ry7 : i6 y7 := by rw [ey7]; exact p6
    refine v_lstore 61 [1, 2, 3, 4, 0] rfl (by decide) rfl ?_
    refine v_lload 62 4 rfl rfl ?_
    refine v_ldc2 (v := (-1000)) 63 rfl (tbG_in (List.mem_append_right _ (List.mem_of_getElem? (i := 1369) (by decide +kernel))) rfl) ?_
    refine v_lif_lt 64 rfl rfl (tgt := 117) rfl ry7 (by decide) (fun q8 => ?_) (fun q8 => ?_)
    · have h := h.1 q8
      refine v_aload_n 70 0 rfl rfl rfl ?_
      refine v_bipush 71 rfl (by decide) ?_
      refine v_callV (st := []) [I_ 7] 72 rfl lv12_174_plate_11 (al 53 rfl hn) (wk53 dy) (by decide) rfl (Nat.le_refl _) (Nat.le_refl _) ?_
      exact h
    · have h := h.2 q8
      refine v_lload 66 4 rfl rfl ?_
      refine v_ldc2 (v := 1000) 67 rfl (tbG_in (List.mem_append_right _ (List.mem_of_getElem? (i := 1370) (by decide +kernel))) rfl) ?_
      refine v_lif_le 68 rfl rfl (tgt := 124) rfl ry7 (by decide) (fun q9 => ?_) (fun q9 => ?_)
      · have h := h.1 q9
        refine v_iload_n 74 3 rfl rfl rfl ?_
        refine v_iconst 75 rfl ?_
        refine v_irem 76 rfl c1 (by decide) (by decide) ?_
        have c10 := h.1
        have h := h.2
        refine v_if_ne 77 rfl (tgt := 144) rfl c10 (fun q11 => ?_) (fun q11 => ?_)
        · have h := h.1 q11
          refine v_aload_n 87 0 rfl rfl rfl ?_
          refine v_gK 88 rfl fl12_91_11.r (al 53 rfl hn) (wk53 dy) (by decide) rfl (r := 80) (wc53_31 dy) ?_
          refine v_iload_n 89 3 rfl rfl rfl ?_
          refine v_iconst 90 rfl ?_
          refine v_idiv 91 rfl c1 (by decide) (by decide) ?_
          refine v_lload 92 4 rfl rfl ?_
          refine v_l2i 93 rfl ?_
          have c12 := h.1
          have h := h.2
          have c13 := h.1
          have h := h.2
          refine v_iast (N := 8) 94 rfl (al 80 rfl hn) (wk80 dy) (wn80 dy) (by decide) c12 c13 ?_
          refine v_iinc 95 3 [1, 2, 3, 0, 4] rfl rfl (by decide) rfl ?_
          refine v_goto 96 rfl (tgt := 79) rfl ?_
          refine v_loc [0, 1, 2, 3] rfl ?_
          exact h
        · have h := h.2 q11
          refine v_aload_n 78 0 rfl rfl rfl ?_
          refine v_gK 79 rfl fl12_88_11.r (al 53 rfl hn) (wk53 dy) (by decide) rfl (r := 79) (wc53_30 dy) ?_
          refine v_iload_n 80 3 rfl rfl rfl ?_
          refine v_iconst 81 rfl ?_
          refine v_idiv 82 rfl c1 (by decide) (by decide) ?_
          refine v_lload 83 4 rfl rfl ?_
          refine v_l2i 84 rfl ?_
          have c14 := h.1
          have h := h.2
          have c15 := h.1
          have h := h.2
          refine v_iast (N := 8) 85 rfl (al 79 rfl hn) (wk79 dy) (wn79 dy) (by decide) c14 c15 ?_
          refine v_goto 86 rfl (tgt := 155) rfl ?_
          refine v_iinc 95 3 [1, 2, 3, 0, 4] rfl rfl (by decide) rfl ?_
          refine v_goto 96 rfl (tgt := 79) rfl ?_
          refine v_loc [0, 1, 2, 3] rfl ?_
          exact h
      · have h := h.2 q9
        refine v_aload_n 70 0 rfl rfl rfl ?_
        refine v_bipush 71 rfl (by decide) ?_
        refine v_callV (st := []) [I_ 7] 72 rfl lv12_174_plate_11 (al 53 rfl hn) (wk53 dy) (by decide) rfl (Nat.le_refl _) (Nat.le_refl _) ?_
        exact h
set_option maxHeartbeats 8000000 in
set_option maxRecDepth 4000 in
theorem bX12_plate_123 {d n : Nat} {dy : Nat → Shp} {g : Hp} {P : Pst} {x1 : Int} {x2 : Int} {x3 : Int} {x4 : Int} {xs0 : Int} (hn : 100 ≤ n) (h : P (some (I_ xs0)) n (W0 dy) g) : V miX12_plate (d + 1) 123 [(0, .ref 53), (1, I_ x1), (2, I_ x2), (3, I_ x3), (4, L_ x4)] [I_ xs0] n (W0 dy) g 0 0 P := by
  exact v_ret (v := some (I_ xs0)) 73 rfl (Nat.zero_le _) (Nat.zero_le _) trivial rfl h
set_option maxHeartbeats 8000000 in
set_option maxRecDepth 4000 in
theorem bX12_plate_166 {d n : Nat} {dy : Nat → Shp} {g : Hp} {P : Pst} {x1 : Int} {x2 : Int} {x3 : Int} {xs0 : Int} (hn : 100 ≤ n) (h : (i3 xs0) ∧ ((xs0 ≠ 0) → (((g 53 5) ≠ 60) → V miX12_plate (d + 1) 197 [(0, .ref 53), (1, I_ x1), (2, I_ x2), (3, L_ 0), (5, I_ 0)] [] n (W0 dy) g 0 0 P) ∧ (((g 53 5) = 60) → Runs miX12_refuse d [.ref 53, I_ 10] n (W0 dy) g (fun v n' S' g' => V miX12_plate (d + 1) 191 [(0, .ref 53), (1, I_ x1), (2, I_ x2), (3, I_ x3)] (v.toList ++ []) n' S' g' 0 0 P))) ∧ ((xs0 = 0) → Runs miX12_refuse d [.ref 53, I_ 12] n (W0 dy) g (fun v n' S' g' => V miX12_plate (d + 1) 175 [(0, .ref 53), (1, I_ x1), (2, I_ x2), (3, I_ x3)] (v.toList ++ []) n' S' g' 0 0 P))) : V miX12_plate (d + 1) 166 [(0, .ref 53), (1, I_ x1), (2, I_ x2), (3, I_ x3)] [I_ xs0] n (W0 dy) g 0 0 P := by
  have c1 := h.1
  have h := h.2
  refine v_if_ne 100 rfl (tgt := 176) rfl c1 (fun q2 => ?_) (fun q2 => ?_)
  · have h := h.1 q2
    refine v_aload_n 105 0 rfl rfl rfl ?_
    refine v_gI 106 rfl fl12_169_11.r (al 53 rfl hn) (wk53 dy) (by decide) rfl (wc53_5 dy) (x := g 53 5) rfl ?_
    refine v_rng fun w3 => ?_
    have p4 : i3 (g 53 5) := rI w3 (q := 5) (al 53 rfl hn) (wk53 dy) rfl rfl
    refine v_bipush 107 rfl (by decide) ?_
    refine v_icmp_ne 108 rfl (tgt := 192) rfl p4 (by decide) (fun q5 => ?_) (fun q5 => ?_)
    · have h := h.1 q5
      refine v_lconst (v := 0) 113 rfl (by decide) ?_
      refine v_lstore_n 114 [1, 2, 3, 0] rfl rfl (by decide) rfl ?_
      refine v_iconst 115 rfl ?_
      refine v_istore 116 [1, 2, 3, 4, 0] rfl (by decide) rfl ?_
      exact h
    · have h := h.2 q5
      refine v_aload_n 109 0 rfl rfl rfl ?_
      refine v_bipush 110 rfl (by decide) ?_
      refine v_callV (st := []) [I_ 10] 111 rfl lv12_174_plate_11 (al 53 rfl hn) (wk53 dy) (by decide) rfl (Nat.le_refl _) (Nat.le_refl _) ?_
      exact h
  · have h := h.2 q2
    refine v_aload_n 101 0 rfl rfl rfl ?_
    refine v_bipush 102 rfl (by decide) ?_
    refine v_callV (st := []) [I_ 12] 103 rfl lv12_174_plate_11 (al 53 rfl hn) (wk53 dy) (by decide) rfl (Nat.le_refl _) (Nat.le_refl _) ?_
    exact h
set_option maxHeartbeats 8000000 in
set_option maxRecDepth 4000 in
theorem bX12_plate_175 {d n : Nat} {dy : Nat → Shp} {g : Hp} {P : Pst} {x1 : Int} {x2 : Int} {x3 : Int} {xs0 : Int} (hn : 100 ≤ n) (h : P (some (I_ xs0)) n (W0 dy) g) : V miX12_plate (d + 1) 175 [(0, .ref 53), (1, I_ x1), (2, I_ x2), (3, I_ x3)] [I_ xs0] n (W0 dy) g 0 0 P := by
  exact v_ret (v := some (I_ xs0)) 104 rfl (Nat.zero_le _) (Nat.zero_le _) trivial rfl h
set_option maxHeartbeats 8000000 in
set_option maxRecDepth 4000 in
theorem bX12_plate_191 {d n : Nat} {dy : Nat → Shp} {g : Hp} {P : Pst} {x1 : Int} {x2 : Int} {x3 : Int} {xs0 : Int} (hn : 100 ≤ n) (h : P (some (I_ xs0)) n (W0 dy) g) : V miX12_plate (d + 1) 191 [(0, .ref 53), (1, I_ x1), (2, I_ x2), (3, I_ x3)] [I_ xs0] n (W0 dy) g 0 0 P := by
  exact v_ret (v := some (I_ xs0)) 112 rfl (Nat.zero_le _) (Nat.zero_le _) trivial rfl h
set_option maxHeartbeats 8000000 in
set_option maxRecDepth 4000 in
theorem bX12_plate_197 {d n : Nat} {dy : Nat → Shp} {g : Hp} {P : Pst} {x1 : Int} {x2 : Int} {x3 : Int} {x5 : Int} (hn : 100 ≤ n) (h : (i3 x5) ∧ (i3 x2) ∧ ((x2 ≤ x5) → (i6 x3) ∧ Runs miX12_newPart d [.ref 53, I_ 4, L_ (ab x3)] n (W0 dy) g (fun v n' S' g' => V miX12_plate (d + 1) 264 [(0, .ref 53), (1, I_ x1), (2, I_ x2), (3, L_ x3), (5, I_ x5)] (v.toList ++ []) n' S' g' 0 0 P)) ∧ ((x5 < x2) → (0 ≤ x5 ∧ x5 < 8) ∧ (i3 (x5 + 1)) ∧ (x2 ≠ 0) ∧ (0 ≤ (x5 + 1).tmod x2 ∧ (x5 + 1).tmod x2 < 8) ∧ (x2 ≠ 0) ∧ ∀ y18 : Int, y18 = x3 + (((g 79 x5.toNat) * (g 80 (((x5 + 1).tmod x2).toNat))) - ((g 79 (((x5 + 1).tmod x2).toNat)) * (g 80 x5.toNat))) → V miX12_plate (d + 1) 197 [(0, .ref 53), (1, I_ x1), (2, I_ x2), (3, L_ y18), (5, I_ (x5 + 1))] [] n (W0 dy) g 0 0 P)) : V miX12_plate (d + 1) 197 [(0, .ref 53), (1, I_ x1), (2, I_ x2), (3, L_ x3), (5, I_ x5)] [] n (W0 dy) g 0 0 P := by
  refine v_iload 117 4 rfl rfl ?_
  refine v_iload_n 118 2 rfl rfl rfl ?_
  have c1 := h.1
  have h := h.2
  have c2 := h.1
  have h := h.2
  refine v_icmp_ge 119 rfl (tgt := 255) rfl c1 c2 (fun q3 => ?_) (fun q3 => ?_)
  · have h := h.1 q3
    refine v_aload_n 156 0 rfl rfl rfl ?_
    refine v_iconst 157 rfl ?_
    refine v_lload_n 158 3 rfl rfl rfl ?_
    have c4 := h.1
    have h := h.2
    refine v_mabsl (st := [I_ 4, .ref 53]) 159 rfl lm12_218_plate rfl (Nat.zero_le _) (Nat.zero_le _) c4 ?_
    refine v_callV (st := []) [I_ 4, L_ (ab x3)] 160 rfl lv12_178_plate_11 (al 53 rfl hn) (wk53 dy) (by decide) rfl (Nat.le_refl _) (Nat.le_refl _) ?_
    exact h
  · have h := h.2 q3
    refine v_lload_n 120 3 rfl rfl rfl ?_
    refine v_aload_n 121 0 rfl rfl rfl ?_
    refine v_gK 122 rfl fl12_88_11.r (al 53 rfl hn) (wk53 dy) (by decide) rfl (r := 79) (wc53_30 dy) ?_
    refine v_iload 123 4 rfl rfl ?_
    have c5 := h.1
    have h := h.2
    refine v_ia (N := 8) 124 rfl (al 79 rfl hn) (wk79 dy) (wn79 dy) (by decide) c5 (y := g 79 x5.toNat) rfl ?_
    refine v_rng fun w6 => ?_
    have p7 : i3 (g 79 x5.toNat) := rI w6 (q := x5.toNat) (al 79 rfl hn) (wk79 dy) rfl rfl
    refine v_i2l 125 rfl p7 ?_
    refine v_aload_n 126 0 rfl rfl rfl ?_
    refine v_gK 127 rfl fl12_91_11.r (al 53 rfl hn) (wk53 dy) (by decide) rfl (r := 80) (wc53_31 dy) ?_
    refine v_iload 128 4 rfl rfl ?_
    refine v_iconst 129 rfl ?_
    refine v_iadd 130 rfl ?_
    refine v_iload_n 131 2 rfl rfl rfl ?_
    have c8 := h.1
    have h := h.2
    have c9 := h.1
    have h := h.2
    refine v_irem 132 rfl c8 c2 c9 ?_
    have c10 := h.1
    have h := h.2
    refine v_ia (N := 8) 133 rfl (al 80 rfl hn) (wk80 dy) (wn80 dy) (by decide) c10 (y := g 80 (((x5 + 1).tmod x2).toNat)) rfl ?_
    refine v_rng fun w11 => ?_
    have p12 : i3 (g 80 (((x5 + 1).tmod x2).toNat)) := rI w11 (q := (((x5 + 1).tmod x2).toNat)) (al 80 rfl hn) (wk80 dy) rfl rfl
    refine v_i2l 134 rfl p12 ?_
    refine v_lmul 135 rfl ?_
    refine v_aload_n 136 0 rfl rfl rfl ?_
    refine v_gK 137 rfl fl12_88_11.r (al 53 rfl hn) (wk53 dy) (by decide) rfl (r := 79) (wc53_30 dy) ?_
    refine v_iload 138 4 rfl rfl ?_
    refine v_iconst 139 rfl ?_
    refine v_iadd 140 rfl ?_
    refine v_iload_n 141 2 rfl rfl rfl ?_
    have c13 := h.1
    have h := h.2
    refine v_irem 142 rfl c8 c2 c13 ?_
    refine v_ia (N := 8) 143 rfl (al 79 rfl hn) (wk79 dy) (wn79 dy) (by decide) c10 (y := g 79 (((x5 + 1).tmod x2).toNat)) rfl ?_
    refine v_rng fun w14 => ?_
    have p15 : i3 (g 79 (((x5 + 1).tmod x2).toNat)) := rI w14 (q := (((x5 + 1).tmod x2).toNat)) (al 79 rfl hn) (wk79 dy) rfl rfl
    refine v_i2l 144 rfl p15 ?_
    refine v_aload_n 145 0 rfl rfl rfl ?_
    refine v_gK 146 rfl fl12_91_11.r (al 53 rfl hn) (wk53 dy) (by decide) rfl (r := 80) (wc53_31 dy) ?_
    refine v_iload 147 4 rfl rfl ?_
    refine v_ia (N := 8) 148 rfl (al 80 rfl hn) (wk80 dy) (wn80 dy) (by decide) c5 (y := g 80 x5.toNat) rfl ?_
    refine v_rng fun w16 => ?_
    have p17 : i3 (g 80 x5.toNat) := rI w16 (q := x5.toNat) (al 80 rfl hn) (wk80 dy) rfl rfl
    refine v_i2l 149 rfl p17 ?_
    refine v_lmul 150 rfl ?_
    refine v_lsub 151 rfl ?_
    refine v_ladd 152 rfl ?_
    refine v_nmL (fun y18 ey18 => ?_)
    have h := h y18 ey18
    refine v_lstore_n 153 [1, 2, 3, 0, 4] rfl rfl (by decide) rfl ?_
    refine v_iinc 154 4 [1, 2, 3, 4, 0] rfl rfl (by decide) rfl ?_
    refine v_goto 155 rfl (tgt := 197) rfl ?_
    exact h
set_option maxHeartbeats 8000000 in
set_option maxRecDepth 4000 in
theorem bX12_plate_264 {d n : Nat} {dy : Nat → Shp} {g : Hp} {P : Pst} {x1 : Int} {x2 : Int} {x3 : Int} {x5 : Int} {xs0 : Int} (hn : 100 ≤ n) (h : (0 ≤ xs0 ∧ xs0 < 60) ∧ (i3 x2) ∧ V miX12_plate (d + 1) 277 [(0, .ref 53), (1, I_ x1), (2, I_ x2), (3, L_ x3), (5, I_ xs0), (6, I_ 0)] [] n (W0 dy) (up2 g 68 xs0.toNat x2) 0 0 P) : V miX12_plate (d + 1) 264 [(0, .ref 53), (1, I_ x1), (2, I_ x2), (3, L_ x3), (5, I_ x5)] [I_ xs0] n (W0 dy) g 0 0 P := by
  refine v_istore 161 [1, 2, 3, 4, 0] rfl (by decide) rfl ?_
  refine v_aload_n 162 0 rfl rfl rfl ?_
  refine v_gK 163 rfl fl12_53_11.r (al 53 rfl hn) (wk53 dy) (by decide) rfl (r := 68) (wc53_17 dy) ?_
  refine v_iload 164 4 rfl rfl ?_
  refine v_iload_n 165 2 rfl rfl rfl ?_
  have c1 := h.1
  have h := h.2
  have c2 := h.1
  have h := h.2
  refine v_iast (N := 60) 166 rfl (al 68 rfl hn) (wk68 dy) (wn68 dy) (by decide) c1 c2 ?_
  refine v_iconst 167 rfl ?_
  refine v_istore 168 [1, 2, 3, 4, 5, 0] rfl (by decide) rfl ?_
  exact h
set_option maxHeartbeats 8000000 in
set_option maxRecDepth 4000 in
theorem bX12_plate_277 {d n : Nat} {dy : Nat → Shp} {g : Hp} {P : Pst} {x1 : Int} {x2 : Int} {x3 : Int} {x5 : Int} {x6 : Int} (hn : 100 ≤ n) (h : (i3 x6) ∧ (i3 x2) ∧ ((x2 ≤ x6) → P (some (I_ x5)) n (W0 dy) g) ∧ ((x6 < x2) → (0 ≤ x6 ∧ x6 < 8) ∧ (0 ≤ (8 * x5) + x6 ∧ (8 * x5) + x6 < 480) ∧ V miX12_plate (d + 1) 277 [(0, .ref 53), (1, I_ x1), (2, I_ x2), (3, L_ x3), (5, I_ x5), (6, I_ (x6 + 1))] [] n (W0 dy) (up2 (up2 g 69 (((8 * x5) + x6).toNat) (g 79 x6.toNat)) 70 (((8 * x5) + x6).toNat) (g 80 x6.toNat)) 0 0 P)) : V miX12_plate (d + 1) 277 [(0, .ref 53), (1, I_ x1), (2, I_ x2), (3, L_ x3), (5, I_ x5), (6, I_ x6)] [] n (W0 dy) g 0 0 P := by
  refine v_iload 169 5 rfl rfl ?_
  refine v_iload_n 170 2 rfl rfl rfl ?_
  have c1 := h.1
  have h := h.2
  have c2 := h.1
  have h := h.2
  refine v_icmp_ge 171 rfl (tgt := 329) rfl c1 c2 (fun q3 => ?_) (fun q3 => ?_)
  · have h := h.1 q3
    refine v_iload 198 4 rfl rfl ?_
    exact v_ret (v := some (I_ x5)) 199 rfl (Nat.zero_le _) (Nat.zero_le _) trivial rfl h
  · have h := h.2 q3
    refine v_aload_n 172 0 rfl rfl rfl ?_
    refine v_gK 173 rfl fl12_56_11.r (al 53 rfl hn) (wk53 dy) (by decide) rfl (r := 69) (wc53_18 dy) ?_
    refine v_bipush 174 rfl (by decide) ?_
    refine v_iload 175 4 rfl rfl ?_
    refine v_imul 176 rfl ?_
    refine v_iload 177 5 rfl rfl ?_
    refine v_iadd 178 rfl ?_
    refine v_aload_n 179 0 rfl rfl rfl ?_
    refine v_gK 180 rfl fl12_88_11.r (al 53 rfl hn) (wk53 dy) (by decide) rfl (r := 79) (wc53_30 dy) ?_
    refine v_iload 181 5 rfl rfl ?_
    have c4 := h.1
    have h := h.2
    refine v_ia (N := 8) 182 rfl (al 79 rfl hn) (wk79 dy) (wn79 dy) (by decide) c4 (y := g 79 x6.toNat) rfl ?_
    refine v_rng fun w5 => ?_
    have p6 : i3 (g 79 x6.toNat) := rI w5 (q := x6.toNat) (al 79 rfl hn) (wk79 dy) rfl rfl
    have c7 := h.1
    have h := h.2
    refine v_iast (N := 480) 183 rfl (al 69 rfl hn) (wk69 dy) (wn69 dy) (by decide) c7 p6 ?_
    refine v_aload_n 184 0 rfl rfl rfl ?_
    refine v_gK 185 rfl fl12_59_11.r (al 53 rfl hn) (wk53 dy) (by decide) rfl (r := 70) (wc53_19 dy) ?_
    refine v_bipush 186 rfl (by decide) ?_
    refine v_iload 187 4 rfl rfl ?_
    refine v_imul 188 rfl ?_
    refine v_iload 189 5 rfl rfl ?_
    refine v_iadd 190 rfl ?_
    refine v_aload_n 191 0 rfl rfl rfl ?_
    refine v_gK 192 rfl fl12_91_11.r (al 53 rfl hn) (wk53 dy) (by decide) rfl (r := 80) (wc53_31 dy) ?_
    refine v_iload 193 5 rfl rfl ?_
    refine v_ia (N := 8) 194 rfl (al 80 rfl hn) (wk80 dy) (wn80 dy) (by decide) c4 (y := g 80 x6.toNat) rfl ?_
    refine v_rng fun w8 => ?_
    have p9 : i3 (g 80 x6.toNat) := rI w8 (q := x6.toNat) (al 80 rfl hn) (wk80 dy) rfl rfl
    refine v_iast (N := 480) 195 rfl (al 70 rfl hn) (wk70 dy) (wn70 dy) (by decide) c7 p9 ?_
    refine v_iinc 196 5 [1, 2, 3, 4, 5, 0] rfl rfl (by decide) rfl ?_
    refine v_goto 197 rfl (tgt := 277) rfl ?_
    exact h
theorem wX12_plate {d n : Nat} {dy : Nat → Shp} {g : Hp} {P : Pst} {x1 : Int} {x2 : Int} (hn : 100 ≤ n) (h : (i3 x1) ∧ ((x1 < 0) → Runs miX12_refuse d [.ref 53, I_ 1] n (W0 dy) (up2 (up2 g 53 1 0) 53 0 0) (fun v n' S' g' => V miX12_plate (d + 1) 25 [(0, .ref 53), (1, I_ x1), (2, I_ x2)] (v.toList ++ []) n' S' g' 0 0 P)) ∧ ((0 ≤ x1) → ((x1 < 6) → (0 ≤ x1 ∧ x1 < 6) ∧ ((0 ≤ (g 55 x1.toNat)) → (i3 x2) ∧ ((x2 < 3) → Runs miX12_refuse d [.ref 53, I_ 7] n (W0 dy) (up2 (up2 g 53 1 0) 53 0 0) (fun v n' S' g' => V miX12_plate (d + 1) 58 [(0, .ref 53), (1, I_ x1), (2, I_ x2)] (v.toList ++ []) n' S' g' 0 0 P)) ∧ ((3 ≤ x2) → ((x2 ≤ 8) → (i3 (2 * x2)) ∧ (((2 * x2) ≤ (g 55 x1.toNat)) → V miX12_plate (d + 1) 79 [(0, .ref 53), (1, I_ x1), (2, I_ x2), (3, I_ 0)] [] n (W0 dy) (up2 (up2 g 53 1 0) 53 0 0) 0 0 P) ∧ (((g 55 x1.toNat) < (2 * x2)) → Runs miX12_refuse d [.ref 53, I_ 4] n (W0 dy) (up2 (up2 g 53 1 0) 53 0 0) (fun v n' S' g' => V miX12_plate (d + 1) 76 [(0, .ref 53), (1, I_ x1), (2, I_ x2)] (v.toList ++ []) n' S' g' 0 0 P))) ∧ ((8 < x2) → Runs miX12_refuse d [.ref 53, I_ 7] n (W0 dy) (up2 (up2 g 53 1 0) 53 0 0) (fun v n' S' g' => V miX12_plate (d + 1) 58 [(0, .ref 53), (1, I_ x1), (2, I_ x2)] (v.toList ++ []) n' S' g' 0 0 P)))) ∧ (((g 55 x1.toNat) < 0) → Runs miX12_refuse d [.ref 53, I_ 3] n (W0 dy) (up2 (up2 g 53 1 0) 53 0 0) (fun v n' S' g' => V miX12_plate (d + 1) 40 [(0, .ref 53), (1, I_ x1), (2, I_ x2)] (v.toList ++ []) n' S' g' 0 0 P))) ∧ ((6 ≤ x1) → Runs miX12_refuse d [.ref 53, I_ 1] n (W0 dy) (up2 (up2 g 53 1 0) 53 0 0) (fun v n' S' g' => V miX12_plate (d + 1) 25 [(0, .ref 53), (1, I_ x1), (2, I_ x2)] (v.toList ++ []) n' S' g' 0 0 P)))) : Runs miX12_plate (d + 1) [.ref 53, I_ x1, I_ x2] n (W0 dy) g P := Runs.of rfl rfl deX12_plate (Nat.le_of_ble_eq_true rfl) (bX12_plate_0 hn h)
