theorem lm12_218_plate : LkM miX12_plate 218 Lib.MathLoose.abs_long.x Lib.MathLoose.abs_long.code 2 .long := ⟨tbG_in (List.mem_append_right _ (List.mem_of_getElem? (i := 1392) (by decide +kernel))) rfl, tbG_in (List.mem_append_right _ (List.mem_of_getElem? (i := 568) (by decide +kernel))) rfl, tbG_in (List.mem_append_right _ (List.mem_of_getElem? (i := 15) (by decide +kernel))) rfl, tbG_in (List.mem_append_right _ (List.mem_of_getElem? (i := 569) (by decide +kernel))) rfl⟩
theorem fl12_53_11 : FL RX12 53 11 17 true (.array .int) := ⟨RX12, TX12, 58, "MobileMakerModel", rfl, rfl, by decide, kf11, tbG_in (List.mem_append_right _ (List.mem_of_getElem? (i := 1144) (by decide +kernel))) rfl, Or.inl rfl, rfl, by decide +kernel, ⟨tyX12, tyX12_ok⟩, nmX12, fun _ => rfl⟩
theorem fl12_56_11 : FL RX12 56 11 18 true (.array .int) := ⟨RX12, TX12, 58, "MobileMakerModel", rfl, rfl, by decide, kf11, tbG_in (List.mem_append_right _ (List.mem_of_getElem? (i := 1145) (by decide +kernel))) rfl, Or.inl rfl, rfl, by decide +kernel, ⟨tyX12, tyX12_ok⟩, nmX12, fun _ => rfl⟩
theorem fl12_59_11 : FL RX12 59 11 19 true (.array .int) := ⟨RX12, TX12, 58, "MobileMakerModel", rfl, rfl, by decide, kf11, tbG_in (List.mem_append_right _ (List.mem_of_getElem? (i := 1146) (by decide +kernel))) rfl, Or.inl rfl, rfl, by decide +kernel, ⟨tyX12, tyX12_ok⟩, nmX12, fun _ => rfl⟩
theorem lv12_174_plate_11 : LkV miX12_plate miX12_refuse 174 1 11 := ⟨⟨⟨tbG_in (List.mem_append_right _ (List.mem_of_getElem? (i := 1351) (by decide +kernel))) rfl, tbG_in (List.mem_append_right _ (List.mem_of_getElem? (i := 9) (by decide +kernel))) rfl, tbG_in (List.mem_append_right _ (List.mem_of_getElem? (i := 1348) (by decide +kernel))) rfl⟩, ⟨by decide +kernel, by decide +kernel, by decide +kernel⟩, by decide⟩, tbG_in (List.mem_append_right _ (List.mem_of_getElem? (i := 1350) (by decide +kernel))) rfl, RX12, TX12, 58, rfl, tbG_in (List.mem_append_left _ (List.mem_of_getElem? (i := 50) (by decide +kernel))) rfl⟩
theorem lv12_215_plate_11 : LkV miX12_plate miX12_isRing 215 1 11 := ⟨⟨⟨tbG_in (List.mem_append_right _ (List.mem_of_getElem? (i := 1374) (by decide +kernel))) rfl, tbG_in (List.mem_append_right _ (List.mem_of_getElem? (i := 9) (by decide +kernel))) rfl, tbG_in (List.mem_append_right _ (List.mem_of_getElem? (i := 1371) (by decide +kernel))) rfl⟩, ⟨by decide +kernel, by decide +kernel, by decide +kernel⟩, by decide⟩, tbG_in (List.mem_append_right _ (List.mem_of_getElem? (i := 1373) (by decide +kernel))) rfl, RX12, TX12, 58, rfl, tbG_in (List.mem_append_left _ (List.mem_of_getElem? (i := 52) (by decide +kernel))) rfl⟩
theorem lv12_178_plate_11 : LkV miX12_plate miX12_newPart 178 2 11 := ⟨⟨⟨tbG_in (List.mem_append_right _ (List.mem_of_getElem? (i := 1355) (by decide +kernel))) rfl, tbG_in (List.mem_append_right _ (List.mem_of_getElem? (i := 9) (by decide +kernel))) rfl, tbG_in (List.mem_append_right _ (List.mem_of_getElem? (i := 1352) (by decide +kernel))) rfl⟩, ⟨by decide +kernel, by decide +kernel, by decide +kernel⟩, by decide⟩, tbG_in (List.mem_append_right _ (List.mem_of_getElem? (i := 1354) (by decide +kernel))) rfl, RX12, TX12, 58, rfl, tbG_in (List.mem_append_left _ (List.mem_of_getElem? (i := 51) (by decide +kernel))) rfl⟩
set_option maxHeartbeats 8000000 in
set_option maxRecDepth 4000 in
theorem bX12_plate_0 {d n : Nat} {dy : Nat → Shp} {g : Hp} {P : Pst} {x1 : Int} {x2 : Int} (hn : 100 ≤ n) (h : (i3 x1) ∧ ((x1 < 0) → Runs miX12_refuse d [.ref 53, I_ 1] n (W0 dy) (up2 (up2 g 53 1 0) 53 0 0) (fun v n' S' g' => V miX12_plate (d + 1) 25 [(0, .ref 53), (1, I_ x1), (2, I_ x2)] (v.toList ++ []) n' S' g' 0 0 P)) ∧ ((0 ≤ x1) → ((x1 < 6) → (0 ≤ x1 ∧ x1 < 6) ∧ ((0 ≤ (g 55 x1.toNat)) → (i3 x2) ∧ ((x2 < 3) → Runs miX12_refuse d [.ref 53, I_ 7] n (W0 dy) (up2 (up2 g 53 1 0) 53 0 0) (fun v n' S' g' => V miX12_plate (d + 1) 58 [(0, .ref 53), (1, I_ x1), (2, I_ x2)] (v.toList ++ []) n' S' g' 0 0 P)) ∧ ((3 ≤ x2) → ((x2 ≤ 8) → (i3 (2 * x2)) ∧ (((2 * x2) ≤ (g 55 x1.toNat)) → V miX12_plate (d + 1) 79 [(0, .ref 53), (1, I_ x1), (2, I_ x2), (3, I_ 0)] [] n (W0 dy) (up2 (up2 g 53 1 0) 53 0 0) 0 0 P) ∧ (((g 55 x1.toNat) < (2 * x2)) → Runs miX12_refuse d [.ref 53, I_ 4] n (W0 dy) (up2 (up2 g 53 1 0) 53 0 0) (fun v n' S' g' => V miX12_plate (d + 1) 76 [(0, .ref 53), (1, I_ x1), (2, I_ x2)] (v.toList ++ []) n' S' g' 0 0 P))) ∧ ((8 < x2) → Runs miX12_refuse d [.ref 53, I_ 7] n (W0 dy) (up2 (up2 g 53 1 0) 53 0 0) (fun v n' S' g' => V miX12_plate (d + 1) 58 [(0, .ref 53), (1, I_ x1), (2, I_ x2)] (v.toList ++ []) n' S' g' 0 0 P)))) ∧ (((g 55 x1.toNat) < 0) → Runs miX12_refuse d [.ref 53, I_ 3] n (W0 dy) (up2 (up2 g 53 1 0) 53 0 0) (fun v n' S' g' => V miX12_plate (d + 1) 40 [(0, .ref 53), (1, I_ x1), (2, I_ x2)] (v.toList ++ []) n' S' g' 0 0 P))) ∧ ((6 ≤ x1) → Runs miX12_refuse d [.ref 53, I_ 1] n (W0 dy) (up2 (up2 g 53 1 0) 53 0 0) (fun v n' S' g' => V miX12_plate (d + 1) 25 [(0, .ref 53), (1, I_ x1), (2, I_ x2)] (v.toList ++ []) n' S' g' 0 0 P)))) : V miX12_plate (d + 1) 0 [(0, .ref 53), (1, I_ x1), (2, I_ x2)] [] n (W0 dy) g 0 0 P := by
  refine v_aload_n 0 0 rfl rfl rfl ?_
  refine v_iconst 1 rfl ?_
  refine v_putI 2 rfl fl12_148_11 (al 53 rfl hn) (wk53 dy) (by decide) rfl (wc53_1 dy) (by decide) ?_
  refine v_aload_n 3 0 rfl rfl rfl ?_
  refine v_iconst 4 rfl ?_
  refine v_putI 5 rfl fl12_152_11 (al 53 rfl hn) (wk53 dy) (by decide) rfl (wc53_0 dy) (by decide) ?_
  refine v_iload_n 6 1 rfl rfl rfl ?_
  have c1 := h.1
  have h := h.2
  refine v_if_lt 7 rfl (tgt := 20) rfl c1 (fun q2 => ?_) (fun q2 => ?_)
  · have h := h.1 q2
    refine v_aload_n 11 0 rfl rfl rfl ?_
    refine v_iconst 12 rfl ?_
    refine v_callV (st := []) [I_ 1] 13 rfl lv12_174_plate_11 (al 53 rfl hn) (wk53 dy) (by decide) rfl (Nat.le_refl _) (Nat.le_refl _) ?_
    exact h
  · have h := h.2 q2
    refine v_iload_n 8 1 rfl rfl rfl ?_
    refine v_bipush 9 rfl (by decide) ?_
    refine v_icmp_lt 10 rfl (tgt := 26) rfl c1 (by decide) (fun q3 => ?_) (fun q3 => ?_)
    · have h := h.1 q3
      refine v_aload_n 15 0 rfl rfl rfl ?_
      refine v_gK 16 rfl fl12_13_11.r (al 53 rfl hn) (wk53 dy) (by decide) rfl (r := 55) (wc53_3 dy) ?_
      refine v_iload_n 17 1 rfl rfl rfl ?_
      have c4 := h.1
      have h := h.2
      refine v_ia (N := 6) 18 rfl (al 55 rfl hn) (wk55 dy) (wn55 dy) (by decide) c4 (y := g 55 x1.toNat) rfl ?_
      refine v_rng fun w5 => ?_
      have p6 : i3 (g 55 x1.toNat) := rI w5 (q := x1.toNat) (al 55 rfl hn) (wk55 dy) rfl rfl
      refine v_if_ge 19 rfl (tgt := 41) rfl p6 (fun q7 => ?_) (fun q7 => ?_)
      · have h := h.1 q7
        refine v_iload_n 24 2 rfl rfl rfl ?_
        refine v_iconst 25 rfl ?_
        have c8 := h.1
        have h := h.2
        refine v_icmp_lt 26 rfl (tgt := 52) rfl c8 (by decide) (fun q9 => ?_) (fun q9 => ?_)
        · have h := h.1 q9
          refine v_aload_n 30 0 rfl rfl rfl ?_
          refine v_bipush 31 rfl (by decide) ?_
          refine v_callV (st := []) [I_ 7] 32 rfl lv12_174_plate_11 (al 53 rfl hn) (wk53 dy) (by decide) rfl (Nat.le_refl _) (Nat.le_refl _) ?_
          exact h
        · have h := h.2 q9
          refine v_iload_n 27 2 rfl rfl rfl ?_
          refine v_bipush 28 rfl (by decide) ?_
          refine v_icmp_le 29 rfl (tgt := 59) rfl c8 (by decide) (fun q10 => ?_) (fun q10 => ?_)
          · have h := h.1 q10
            refine v_iconst 34 rfl ?_
            refine v_iload_n 35 2 rfl rfl rfl ?_
            refine v_imul 36 rfl ?_
            refine v_aload_n 37 0 rfl rfl rfl ?_
            refine v_gK 38 rfl fl12_13_11.r (al 53 rfl hn) (wk53 dy) (by decide) rfl (r := 55) (wc53_3 dy) ?_
            refine v_iload_n 39 1 rfl rfl rfl ?_
            refine v_ia (N := 6) 40 rfl (al 55 rfl hn) (wk55 dy) (wn55 dy) (by decide) c4 (y := g 55 x1.toNat) rfl ?_
            refine v_rng fun w11 => ?_
            have p12 : i3 (g 55 x1.toNat) := rI w11 (q := x1.toNat) (al 55 rfl hn) (wk55 dy) rfl rfl
            have c13 := h.1
            have h := h.2
            refine v_icmp_le 41 rfl (tgt := 77) rfl c13 p12 (fun q14 => ?_) (fun q14 => ?_)
            · have h := h.1 q14
              refine v_iconst 46 rfl ?_
              refine v_istore_n 47 [1, 2, 3, 0] rfl rfl (by decide) rfl ?_
              exact h
            · have h := h.2 q14
              refine v_aload_n 42 0 rfl rfl rfl ?_
              refine v_iconst 43 rfl ?_
              refine v_callV (st := []) [I_ 4] 44 rfl lv12_174_plate_11 (al 53 rfl hn) (wk53 dy) (by decide) rfl (Nat.le_refl _) (Nat.le_refl _) ?_
              exact h
          · have h := h.2 q10
            refine v_aload_n 30 0 rfl rfl rfl ?_
            refine v_bipush 31 rfl (by decide) ?_
            refine v_callV (st := []) [I_ 7] 32 rfl lv12_174_plate_11 (al 53 rfl hn) (wk53 dy) (by decide) rfl (Nat.le_refl _) (Nat.le_refl _) ?_
            exact h
      · have h := h.2 q7
        refine v_aload_n 20 0 rfl rfl rfl ?_
        refine v_iconst 21 rfl ?_
        refine v_callV (st := []) [I_ 3] 22 rfl lv12_174_plate_11 (al 53 rfl hn) (wk53 dy) (by decide) rfl (Nat.le_refl _) (Nat.le_refl _) ?_
        exact h
    · have h := h.2 q3
      refine v_aload_n 11 0 rfl rfl rfl ?_
      refine v_iconst 12 rfl ?_
      refine v_callV (st := []) [I_ 1] 13 rfl lv12_174_plate_11 (al 53 rfl hn) (wk53 dy) (by decide) rfl (Nat.le_refl _) (Nat.le_refl _) ?_
      exact h
set_option maxHeartbeats 8000000 in
set_option maxRecDepth 4000 in
theorem bX12_plate_25 {d n : Nat} {dy : Nat → Shp} {g : Hp} {P : Pst} {x1 : Int} {x2 : Int} {xs0 : Int} (hn : 100 ≤ n) (h : P (some (I_ xs0)) n (W0 dy) g) : V miX12_plate (d + 1) 25 [(0, .ref 53), (1, I_ x1), (2, I_ x2)] [I_ xs0] n (W0 dy) g 0 0 P := by
  exact v_ret (v := some (I_ xs0)) 14 rfl (Nat.zero_le _) (Nat.zero_le _) trivial rfl h
set_option maxHeartbeats 8000000 in
set_option maxRecDepth 4000 in
theorem bX12_plate_40 {d n : Nat} {dy : Nat → Shp} {g : Hp} {P : Pst} {x1 : Int} {x2 : Int} {xs0 : Int} (hn : 100 ≤ n) (h : P (some (I_ xs0)) n (W0 dy) g) : V miX12_plate (d + 1) 40 [(0, .ref 53), (1, I_ x1), (2, I_ x2)] [I_ xs0] n (W0 dy) g 0 0 P := by
  exact v_ret (v := some (I_ xs0)) 23 rfl (Nat.zero_le _) (Nat.zero_le _) trivial rfl h
set_option maxHeartbeats 8000000 in
set_option maxRecDepth 4000 in
theorem bX12_plate_58 {d n : Nat} {dy : Nat → Shp} {g : Hp} {P : Pst} {x1 : Int} {x2 : Int} {xs0 : Int} (hn : 100 ≤ n) (h : P (some (I_ xs0)) n (W0 dy) g) : V miX12_plate (d + 1) 58 [(0, .ref 53), (1, I_ x1), (2, I_ x2)] [I_ xs0] n (W0 dy) g 0 0 P := by
  exact v_ret (v := some (I_ xs0)) 33 rfl (Nat.zero_le _) (Nat.zero_le _) trivial rfl h
set_option maxHeartbeats 8000000 in
set_option maxRecDepth 4000 in
theorem bX12_plate_76 {d n : Nat} {dy : Nat → Shp} {g : Hp} {P : Pst} {x1 : Int} {x2 : Int} {xs0 : Int} (hn : 100 ≤ n) (h : P (some (I_ xs0)) n (W0 dy) g) : V miX12_plate (d + 1) 76 [(0, .ref 53), (1, I_ x1), (2, I_ x2)] [I_ xs0] n (W0 dy) g 0 0 P := by
  exact v_ret (v := some (I_ xs0)) 45 rfl (Nat.zero_le _) (Nat.zero_le _) trivial rfl h
set_option maxHeartbeats 8000000 in
set_option maxRecDepth 4000 in
theorem bX12_plate_79 {d n : Nat} {dy : Nat → Shp} {g : Hp} {P : Pst} {x1 : Int} {x2 : Int} {x3 : Int} (hn : 100 ≤ n) (h : (i3 x3) ∧ (i3 (2 * x2)) ∧ (((2 * x2) ≤ x3) → Runs miX12_isRing d [.ref 53, I_ x2] n (W0 dy) g (fun v n' S' g' => V miX12_plate (d + 1) 166 [(0, .ref 53), (1, I_ x1), (2, I_ x2), (3, I_ x3)] (v.toList ++ []) n' S' g' 0 0 P)) ∧ ((x3 < (2 * x2)) → (0 ≤ (16 * x1) + x3 ∧ (16 * x1) + x3 < 96) ∧ ∀ y7 : Int, y7 = g 56 (((16 * x1) + x3).toNat) → ((y7 < ((-1000))) → Runs miX12_refuse d [.ref 53, I_ 7] n (W0 dy) g (fun v n' S' g' => V miX12_plate (d + 1) 123 [(0, .ref 53), (1, I_ x1), (2, I_ x2), (3, I_ x3), (4, L_ y7)] (v.toList ++ []) n' S' g' 0 0 P)) ∧ ((((-1000)) ≤ y7) → ((y7 ≤ 1000) → (i3 (x3.tmod 2)) ∧ (((x3.tmod 2) ≠ 0) → (0 ≤ x3.tdiv 2 ∧ x3.tdiv 2 < 8) ∧ (i3 y7) ∧ V miX12_plate (d + 1) 79 [(0, .ref 53), (1, I_ x1), (2, I_ x2), (3, I_ (x3 + 1))] [] n (W0 dy) (up2 g 80 ((x3.tdiv 2).toNat) y7) 0 0 P) ∧ (((x3.tmod 2) = 0) → (0 ≤ x3.tdiv 2 ∧ x3.tdiv 2 < 8) ∧ (i3 y7) ∧ V miX12_plate (d + 1) 79 [(0, .ref 53), (1, I_ x1), (2, I_ x2), (3, I_ (x3 + 1))] [] n (W0 dy) (up2 g 79 ((x3.tdiv 2).toNat) y7) 0 0 P)) ∧ ((1000 < y7) → Runs miX12_refuse d [.ref 53, I_ 7] n (W0 dy) g (fun v n' S' g' => V miX12_plate (d + 1) 123 [(0, .ref 53), (1, I_ x1), (2, I_ x2), (3, I_ x3), (4, L_ y7)] (v.toList ++ []) n' S' g' 0 0 P))))) : V miX12_plate (d + 1) 79 [(0, .ref 53), (1, I_ x1), (2, I_ x2), (3, I_ x3)] [] n (W0 dy) g 0 0 P := by
  refine v_iload_n 48 3 rfl rfl rfl ?_
  refine v_iconst 49 rfl ?_
  refine v_iload_n 50 2 rfl rfl rfl ?_
  refine v_imul 51 rfl ?_
  have c1 := h.1
  have h := h.2
  have c2 := h.1
  have h := h.2
  refine v_icmp_ge 52 rfl (tgt := 161) rfl c1 c2 (fun q3 => ?_) (fun q3 => ?_)
  · have h := h.1 q3
    refine v_aload_n 97 0 rfl rfl rfl ?_
    refine v_iload_n 98 2 rfl rfl rfl ?_
    refine v_callV (st := []) [I_ x2] 99 rfl lv12_215_plate_11 (al 53 rfl hn) (wk53 dy) (by decide) rfl (Nat.le_refl _) (Nat.le_refl _) ?_
    exact h
  · have h := h.2 q3
    refine v_aload_n 53 0 rfl rfl rfl ?_
    refine v_gK 54 rfl fl12_16_11.r (al 53 rfl hn) (wk53 dy) (by decide) rfl (r := 56) (wc53_4 dy) ?_
    refine v_bipush 55 rfl (by decide) ?_
    refine v_iload_n 56 1 rfl rfl rfl ?_
    refine v_imul 57 rfl ?_
    refine v_iload_n 58 3 rfl rfl rfl ?_
    refine v_iadd 59 rfl ?_
    have c4 := h.1
    have h := h.2
    refine v_la (N := 96) 60 rfl (al 56 rfl hn) (wk56 dy) (wn56 dy) (by decide) c4 (y := g 56 (((16 * x1) + x3).toNat)) rfl ?_
    refine v_rng fun w5 => ?_
    have p6 : i6 (g 56 (((16 * x1) + x3).toNat)) := rL w5 (q := (((16 * x1) + x3).toNat)) (al 56 rfl hn) (wk56 dy) rfl rfl
    refine v_nmL (fun y7 ey7 => ?_)
    have h := h y7 ey7
    have ry7 : i6 y7 := by rw [ey7]; exact p6
    refine v_lstore 61 [1, 2, 3, 4, 0] rfl (by decide) rfl ?_
    refine v_lload 62 4 rfl rfl ?_
    refine v_ldc2 (v := (-1000)) 63 rfl (tbG_in (List.mem_append_right _ (List.mem_of_getElem? (i := 1369) (by decide +kernel))) rfl) ?_
    refine v_lif_lt 64 rfl rfl (tgt := 117) rfl ry7 (by decide) (fun q8 => ?_) (fun q8 => ?_)
    · have h := h.1 q8
      refine v_aload_n 70 0 rfl rfl rfl ?_
      refine v_bipush 71 rfl (by decide) ?_
      refine v_callV (st := []) [I_ 7] 72 rfl lv12_174_plate_11 (al 53 rfl hn) (wk53 dy) (by decide) rfl (Nat.le_refl _) (Nat.le_refl _) ?_
      exact h
    · have h := h.2 q8
      refine v_lload 66 4 rfl rfl ?_
      refine v_ldc2 (v := 1000) 67 rfl (tbG_in (List.mem_append_right _ (List.mem_of_getElem? (i := 1370) (by decide +kernel))) rfl) ?_
      refine v_lif_le 68 rfl rfl (tgt := 124) rfl ry7 (by decide) (fun q9 => ?_) (fun q9 => ?_)
      · have h := h.1 q9
        refine v_iload_n 74 3 rfl rfl rfl ?_
        refine v_iconst 75 rfl ?_
        refine v_irem 76 rfl c1 (by decide) (by decide) ?_
        have c10 := h.1
        have h := h.2
        refine v_if_ne 77 rfl (tgt := 144) rfl c10 (fun q11 => ?_) (fun q11 => ?_)
        · have h := h.1 q11
          refine v_aload_n 87 0 rfl rfl rfl ?_
          refine v_gK 88 rfl fl12_91_11.r (al 53 rfl hn) (wk53 dy) (by decide) rfl (r := 80) (wc53_31 dy) ?_
          refine v_iload_n 89 3 rfl rfl rfl ?_
          refine v_iconst 90 rfl ?_
          refine v_idiv 91 rfl c1 (by decide) (by decide) ?_
          refine v_lload 92 4 rfl rfl ?_
          refine v_l2i 93 rfl ?_
          have c12 := h.1
          have h := h.2
          have c13 := h.1
          have h := h.2
          refine v_iast (N := 8) 94 rfl (al 80 rfl hn) (wk80 dy) (wn80 dy) (by decide) c12 c13 ?_
          refine v_iinc 95 3 [1, 2, 3, 0, 4] rfl rfl (by decide) rfl ?_
          refine v_goto 96 rfl (tgt := 79) rfl ?_
          refine v_loc [0, 1, 2, 3] rfl ?_
          exact h
        · have h := h.2 q11
          refine v_aload_n 78 0 rfl rfl rfl ?_
          refine v_gK 79 rfl fl12_88_11.r (al 53 rfl hn) (wk53 dy) (by decide) rfl (r := 79) (wc53_30 dy) ?_
          refine v_iload_n 80 3 rfl rfl rfl ?_
          refine v_iconst 81 rfl ?_
          refine v_idiv 82 rfl c1 (by decide) (by decide) ?_
          refine v_lload 83 4 rfl rfl ?_
          refine v_l2i 84 rfl ?_
          have c14 := h.1
          have h := h.2
          have c15 := h.1
          have h := h.2
          refine v_iast (N := 8) 85 rfl (al 79 rfl hn) (wk79 dy) (wn79 dy) (by decide) c14 c15 ?_
          refine v_goto 86 rfl (tgt := 155) rfl ?_
          refine v_iinc 95 3 [1, 2, 3, 0, 4] rfl rfl (by decide) rfl ?_
          refine v_goto 96 rfl (tgt := 79) rfl ?_
          refine v_loc [0, 1, 2, 3] rfl ?_
          exact h
      · have h := h.2 q9
        refine v_aload_n 70 0 rfl rfl rfl ?_
        refine v_bipush 71 rfl (by decide) ?_
        refine v_callV (st := []) [I_ 7] 72 rfl lv12_174_plate_11 (al 53 rfl hn) (wk53 dy) (by decide) rfl (Nat.le_refl _) (Nat.le_refl _) ?_
        exact h
set_option maxHeartbeats 8000000 in
set_option maxRecDepth 4000 in
theorem bX12_plate_123 {d n : Nat} {dy : Nat → Shp} {g : Hp} {P : Pst} {x1 : Int} {x2 : Int} {x3 : Int} {x4 : Int} {xs0 : Int} (hn : 100 ≤ n) (h : P (some (I_ xs0)) n (W0 dy) g) : V miX12_plate (d + 1) 123 [(0, .ref 53), (1, I_ x1), (2, I_ x2), (3, I_ x3), (4, L_ x4)] [I_ xs0] n (W0 dy) g 0 0 P := by
  exact v_ret (v := some (I_ xs0)) 73 rfl (Nat.zero_le _) (Nat.zero_le _) trivial rfl h
set_option maxHeartbeats 8000000 in
set_option maxRecDepth 4000 in
theorem bX12_plate_166 {d n : Nat} {dy : Nat → Shp} {g : Hp} {P : Pst} {x1 : Int} {x2 : Int} {x3 : Int} {xs0 : Int} (hn : 100 ≤ n) (h : (i3 xs0) ∧ ((xs0 ≠ 0) → (((g 53 5) ≠ 60) → V miX12_plate (d + 1) 197 [(0, .ref 53), (1, I_ x1), (2, I_ x2), (3, L_ 0), (5, I_ 0)] [] n (W0 dy) g 0 0 P) ∧ (((g 53 5) = 60) → Runs miX12_refuse d [.ref 53, I_ 10] n (W0 dy) g (fun v n' S' g' => V miX12_plate (d + 1) 191 [(0, .ref 53), (1, I_ x1), (2, I_ x2), (3, I_ x3)] (v.toList ++ []) n' S' g' 0 0 P))) ∧ ((xs0 = 0) → Runs miX12_refuse d [.ref 53, I_ 12] n (W0 dy) g (fun v n' S' g' => V miX12_plate (d + 1) 175 [(0, .ref 53), (1, I_ x1), (2, I_ x2), (3, I_ x3)] (v.toList ++ []) n' S' g' 0 0 P))) : V miX12_plate (d + 1) 166 [(0, .ref 53), (1, I_ x1), (2, I_ x2), (3, I_ x3)] [I_ xs0] n (W0 dy) g 0 0 P := by
  have c1 := h.1
  have h := h.2
  refine v_if_ne 100 rfl (tgt := 176) rfl c1 (fun q2 => ?_) (fun q2 => ?_)
  · have h := h.1 q2
    refine v_aload_n 105 0 rfl rfl rfl ?_
    refine v_gI 106 rfl fl12_169_11.r (al 53 rfl hn) (wk53 dy) (by decide) rfl (wc53_5 dy) (x := g 53 5) rfl ?_
    refine v_rng fun w3 => ?_
    have p4 : i3 (g 53 5) := rI w3 (q := 5) (al 53 rfl hn) (wk53 dy) rfl rfl
    refine v_bipush 107 rfl (by decide) ?_
    refine v_icmp_ne 108 rfl (tgt := 192) rfl p4 (by decide) (fun q5 => ?_) (fun q5 => ?_)
    · have h := h.1 q5
      refine v_lconst (v := 0) 113 rfl (by decide) ?_
      refine v_lstore_n 114 [1, 2, 3, 0] rfl rfl (by decide) rfl ?_
      refine v_iconst 115 rfl ?_
      refine v_istore 116 [1, 2, 3, 4, 0] rfl (by decide) rfl ?_
      exact h
    · have h := h.2 q5
      refine v_aload_n 109 0 rfl rfl rfl ?_
      refine v_bipush 110 rfl (by decide) ?_
      refine v_callV (st := []) [I_ 10] 111 rfl lv12_174_plate_11 (al 53 rfl hn) (wk53 dy) (by decide) rfl (Nat.le_refl _) (Nat.le_refl _) ?_
      exact h
  · have h := h.2 q2
    refine v_aload_n 101 0 rfl rfl rfl ?_
    refine v_bipush 102 rfl (by decide) ?_
    refine v_callV (st := []) [I_ 12] 103 rfl lv12_174_plate_11 (al 53 rfl hn) (wk53 dy) (by decide) rfl (Nat.le_refl _) (Nat.le_refl _) ?_
    exact h
set_option maxHeartbeats 8000000 in
set_option maxRecDepth 4000 in
theorem bX12_plate_175 {d n : Nat} {dy : Nat → Shp} {g : Hp} {P : Pst} {x1 : Int} {x2 : Int} {x3 : Int} {xs0 : Int} (hn : 100 ≤ n) (h : P (some (I_ xs0)) n (W0 dy) g) : V miX12_plate (d + 1) 175 [(0, .ref 53), (1, I_ x1), (2, I_ x2), (3, I_ x3)] [I_ xs0] n (W0 dy) g 0 0 P := by
  exact v_ret (v := some (I_ xs0)) 104 rfl (Nat.zero_le _) (Nat.zero_le _) trivial rfl h
set_option maxHeartbeats 8000000 in
set_option maxRecDepth 4000 in
theorem bX12_plate_191 {d n : Nat} {dy : Nat → Shp} {g : Hp} {P : Pst} {x1 : Int} {x2 : Int} {x3 : Int} {xs0 : Int} (hn : 100 ≤ n) (h : P (some (I_ xs0)) n (W0 dy) g) : V miX12_plate (d + 1) 191 [(0, .ref 53), (1, I_ x1), (2, I_ x2), (3, I_ x3)] [I_ xs0] n (W0 dy) g 0 0 P := by
  exact v_ret (v := some (I_ xs0)) 112 rfl (Nat.zero_le _) (Nat.zero_le _) trivial rfl h
set_option maxHeartbeats 8000000 in
set_option maxRecDepth 4000 in
theorem bX12_plate_197 {d n : Nat} {dy : Nat → Shp} {g : Hp} {P : Pst} {x1 : Int} {x2 : Int} {x3 : Int} {x5 : Int} (hn : 100 ≤ n) (h : (i3 x5) ∧ (i3 x2) ∧ ((x2 ≤ x5) → (i6 x3) ∧ Runs miX12_newPart d [.ref 53, I_ 4, L_ (ab x3)] n (W0 dy) g (fun v n' S' g' => V miX12_plate (d + 1) 264 [(0, .ref 53), (1, I_ x1), (2, I_ x2), (3, L_ x3), (5, I_ x5)] (v.toList ++ []) n' S' g' 0 0 P)) ∧ ((x5 < x2) → (0 ≤ x5 ∧ x5 < 8) ∧ (i3 (x5 + 1)) ∧ (x2 ≠ 0) ∧ (0 ≤ (x5 + 1).tmod x2 ∧ (x5 + 1).tmod x2 < 8) ∧ (x2 ≠ 0) ∧ ∀ y18 : Int, y18 = x3 + (((g 79 x5.toNat) * (g 80 (((x5 + 1).tmod x2).toNat))) - ((g 79 (((x5 + 1).tmod x2).toNat)) * (g 80 x5.toNat))) → V miX12_plate (d + 1) 197 [(0, .ref 53), (1, I_ x1), (2, I_ x2), (3, L_ y18), (5, I_ (x5 + 1))] [] n (W0 dy) g 0 0 P)) : V miX12_plate (d + 1) 197 [(0, .ref 53), (1, I_ x1), (2, I_ x2), (3, L_ x3), (5, I_ x5)] [] n (W0 dy) g 0 0 P := by
  refine v_iload 117 4 rfl rfl ?_
  refine v_iload_n 118 2 rfl rfl rfl ?_
  have c1 := h.1
  have h := h.2
  have c2 := h.1
  have h := h.2
  refine v_icmp_ge 119 rfl (tgt := 255) rfl c1 c2 (fun q3 => ?_) (fun q3 => ?_)
  · have h := h.1 q3
    refine v_aload_n 156 0 rfl rfl rfl ?_
    refine v_iconst 157 rfl ?_
    refine v_lload_n 158 3 rfl rfl rfl ?_
    have c4 := h.1
    have h := h.2
    refine v_mabsl (st := [I_ 4, .ref 53]) 159 rfl lm12_218_plate rfl (Nat.zero_le _) (Nat.zero_le _) c4 ?_
    refine v_callV (st := []) [I_ 4, L_ (ab x3)] 160 rfl lv12_178_plate_11 (al 53 rfl hn) (wk53 dy) (by decide) rfl (Nat.le_refl _) (Nat.le_refl _) ?_
    exact h
  · have h := h.2 q3
    refine v_lload_n 120 3 rfl rfl rfl ?_
    refine v_aload_n 121 0 rfl rfl rfl ?_
    refine v_gK 122 rfl fl12_88_11.r (al 53 rfl hn) (wk53 dy) (by decide) rfl (r := 79) (wc53_30 dy) ?_
    refine v_iload 123 4 rfl rfl ?_
    have c5 := h.1
    have h := h.2
    refine v_ia (N := 8) 124 rfl (al 79 rfl hn) (wk79 dy) (wn79 dy) (by decide) c5 (y := g 79 x5.toNat) rfl ?_
    refine v_rng fun w6 => ?_
    have p7 : i3 (g 79 x5.toNat) := rI w6 (q := x5.toNat) (al 79 rfl hn) (wk79 dy) rfl rfl
    refine v_i2l 125 rfl p7 ?_
    refine v_aload_n 126 0 rfl rfl rfl ?_
    refine v_gK 127 rfl fl12_91_11.r (al 53 rfl hn) (wk53 dy) (by decide) rfl (r := 80) (wc53_31 dy) ?_
    refine v_iload 128 4 rfl rfl ?_
    refine v_iconst 129 rfl ?_
    refine v_iadd 130 rfl ?_
    refine v_iload_n 131 2 rfl rfl rfl ?_
    have c8 := h.1
    have h := h.2
    have c9 := h.1
    have h := h.2
    refine v_irem 132 rfl c8 c2 c9 ?_
    have c10 := h.1
    have h := h.2
    refine v_ia (N := 8) 133 rfl (al 80 rfl hn) (wk80 dy) (wn80 dy) (by decide) c10 (y := g 80 (((x5 + 1).tmod x2).toNat)) rfl ?_
    refine v_rng fun w11 => ?_
    have p12 : i3 (g 80 (((x5 + 1).tmod x2).toNat)) := rI w11 (q := (((x5 + 1).tmod x2).toNat)) (al 80 rfl hn) (wk80 dy) rfl rfl
    refine v_i2l 134 rfl p12 ?_
    refine v_lmul 135 rfl ?_
    refine v_aload_n 136 0 rfl rfl rfl ?_
    refine v_gK 137 rfl fl12_88_11.r (al 53 rfl hn) (wk53 dy) (by decide) rfl (r := 79) (wc53_30 dy) ?_
    refine v_iload 138 4 rfl rfl ?_
    refine v_iconst 139 rfl ?_
    refine v_iadd 140 rfl ?_
    refine v_iload_n 141 2 rfl rfl rfl ?_
    have c13 := h.1
    have h := h.2
    refine v_irem 142 rfl c8 c2 c13 ?_
    refine v_ia (N := 8) 143 rfl (al 79 rfl hn) (wk79 dy) (wn79 dy) (by decide) c10 (y := g 79 (((x5 + 1).tmod x2).toNat)) rfl ?_
    refine v_rng fun w14 => ?_
    have p15 : i3 (g 79 (((x5 + 1).tmod x2).toNat)) := rI w14 (q := (((x5 + 1).tmod x2).toNat)) (al 79 rfl hn) (wk79 dy) rfl rfl
    refine v_i2l 144 rfl p15 ?_
    refine v_aload_n 145 0 rfl rfl rfl ?_
    refine v_gK 146 rfl fl12_91_11.r (al 53 rfl hn) (wk53 dy) (by decide) rfl (r := 80) (wc53_31 dy) ?_
    refine v_iload 147 4 rfl rfl ?_
    refine v_ia (N := 8) 148 rfl (al 80 rfl hn) (wk80 dy) (wn80 dy) (by decide) c5 (y := g 80 x5.toNat) rfl ?_
    refine v_rng fun w16 => ?_
    have p17 : i3 (g 80 x5.toNat) := rI w16 (q := x5.toNat) (al 80 rfl hn) (wk80 dy) rfl rfl
    refine v_i2l 149 rfl p17 ?_
    refine v_lmul 150 rfl ?_
    refine v_lsub 151 rfl ?_
    refine v_ladd 152 rfl ?_
    refine v_nmL (fun y18 ey18 => ?_)
    have h := h y18 ey18
    refine v_lstore_n 153 [1, 2, 3, 0, 4] rfl rfl (by decide) rfl ?_
    refine v_iinc 154 4 [1, 2, 3, 4, 0] rfl rfl (by decide) rfl ?_
    refine v_goto 155 rfl (tgt := 197) rfl ?_
    exact h
set_option maxHeartbeats 8000000 in
set_option maxRecDepth 4000 in
theorem bX12_plate_264 {d n : Nat} {dy : Nat → Shp} {g : Hp} {P : Pst} {x1 : Int} {x2 : Int} {x3 : Int} {x5 : Int} {xs0 : Int} (hn : 100 ≤ n) (h : (0 ≤ xs0 ∧ xs0 < 60) ∧ (i3 x2) ∧ V miX12_plate (d + 1) 277 [(0, .ref 53), (1, I_ x1), (2, I_ x2), (3, L_ x3), (5, I_ xs0), (6, I_ 0)] [] n (W0 dy) (up2 g 68 xs0.toNat x2) 0 0 P) : V miX12_plate (d + 1) 264 [(0, .ref 53), (1, I_ x1), (2, I_ x2), (3, L_ x3), (5, I_ x5)] [I_ xs0] n (W0 dy) g 0 0 P := by
  refine v_istore 161 [1, 2, 3, 4, 0] rfl (by decide) rfl ?_
  refine v_aload_n 162 0 rfl rfl rfl ?_
  refine v_gK 163 rfl fl12_53_11.r (al 53 rfl hn) (wk53 dy) (by decide) rfl (r := 68) (wc53_17 dy) ?_
  refine v_iload 164 4 rfl rfl ?_
  refine v_iload_n 165 2 rfl rfl rfl ?_
  have c1 := h.1
  have h := h.2
  have c2 := h.1
  have h := h.2
  refine v_iast (N := 60) 166 rfl (al 68 rfl hn) (wk68 dy) (wn68 dy) (by decide) c1 c2 ?_
  refine v_iconst 167 rfl ?_
  refine v_istore 168 [1, 2, 3, 4, 5, 0] rfl (by decide) rfl ?_
  exact h
set_option maxHeartbeats 8000000 in
set_option maxRecDepth 4000 in
theorem bX12_plate_277 {d n : Nat} {dy : Nat → Shp} {g : Hp} {P : Pst} {x1 : Int} {x2 : Int} {x3 : Int} {x5 : Int} {x6 : Int} (hn : 100 ≤ n) (h : (i3 x6) ∧ (i3 x2) ∧ ((x2 ≤ x6) → P (some (I_ x5)) n (W0 dy) g) ∧ ((x6 < x2) → (0 ≤ x6 ∧ x6 < 8) ∧ (0 ≤ (8 * x5) + x6 ∧ (8 * x5) + x6 < 480) ∧ V miX12_plate (d + 1) 277 [(0, .ref 53), (1, I_ x1), (2, I_ x2), (3, L_ x3), (5, I_ x5), (6, I_ (x6 + 1))] [] n (W0 dy) (up2 (up2 g 69 (((8 * x5) + x6).toNat) (g 79 x6.toNat)) 70 (((8 * x5) + x6).toNat) (g 80 x6.toNat)) 0 0 P)) : V miX12_plate (d + 1) 277 [(0, .ref 53), (1, I_ x1), (2, I_ x2), (3, L_ x3), (5, I_ x5), (6, I_ x6)] [] n (W0 dy) g 0 0 P := by
  refine v_iload 169 5 rfl rfl ?_
  refine v_iload_n 170 2 rfl rfl rfl ?_
  have c1 := h.1
  have h := h.2
  have c2 := h.1
  have h := h.2
  refine v_icmp_ge 171 rfl (tgt := 329) rfl c1 c2 (fun q3 => ?_) (fun q3 => ?_)
  · have h := h.1 q3
    refine v_iload 198 4 rfl rfl ?_
    exact v_ret (v := some (I_ x5)) 199 rfl (Nat.zero_le _) (Nat.zero_le _) trivial rfl h
  · have h := h.2 q3
    refine v_aload_n 172 0 rfl rfl rfl ?_
    refine v_gK 173 rfl fl12_56_11.r (al 53 rfl hn) (wk53 dy) (by decide) rfl (r := 69) (wc53_18 dy) ?_
    refine v_bipush 174 rfl (by decide) ?_
    refine v_iload 175 4 rfl rfl ?_
    refine v_imul 176 rfl ?_
    refine v_iload 177 5 rfl rfl ?_
    refine v_iadd 178 rfl ?_
    refine v_aload_n 179 0 rfl rfl rfl ?_
    refine v_gK 180 rfl fl12_88_11.r (al 53 rfl hn) (wk53 dy) (by decide) rfl (r := 79) (wc53_30 dy) ?_
    refine v_iload 181 5 rfl rfl ?_
    have c4 := h.1
    have h := h.2
    refine v_ia (N := 8) 182 rfl (al 79 rfl hn) (wk79 dy) (wn79 dy) (by decide) c4 (y := g 79 x6.toNat) rfl ?_
    refine v_rng fun w5 => ?_
    have p6 : i3 (g 79 x6.toNat) := rI w5 (q := x6.toNat) (al 79 rfl hn) (wk79 dy) rfl rfl
    have c7 := h.1
    have h := h.2
    refine v_iast (N := 480) 183 rfl (al 69 rfl hn) (wk69 dy) (wn69 dy) (by decide) c7 p6 ?_
    refine v_aload_n 184 0 rfl rfl rfl ?_
    refine v_gK 185 rfl fl12_59_11.r (al 53 rfl hn) (wk53 dy) (by decide) rfl (r := 70) (wc53_19 dy) ?_
    refine v_bipush 186 rfl (by decide) ?_
    refine v_iload 187 4 rfl rfl ?_
    refine v_imul 188 rfl ?_
    refine v_iload 189 5 rfl rfl ?_
    refine v_iadd 190 rfl ?_
    refine v_aload_n 191 0 rfl rfl rfl ?_
    refine v_gK 192 rfl fl12_91_11.r (al 53 rfl hn) (wk53 dy) (by decide) rfl (r := 80) (wc53_31 dy) ?_
    refine v_iload 193 5 rfl rfl ?_
    refine v_ia (N := 8) 194 rfl (al 80 rfl hn) (wk80 dy) (wn80 dy) (by decide) c4 (y := g 80 x6.toNat) rfl ?_
    refine v_rng fun w8 => ?_
    have p9 : i3 (g 80 x6.toNat) := rI w8 (q := x6.toNat) (al 80 rfl hn) (wk80 dy) rfl rfl
    refine v_iast (N := 480) 195 rfl (al 70 rfl hn) (wk70 dy) (wn70 dy) (by decide) c7 p9 ?_
    refine v_iinc 196 5 [1, 2, 3, 4, 5, 0] rfl rfl (by decide) rfl ?_
    refine v_goto 197 rfl (tgt := 277) rfl ?_
    exact h
theorem wX12_plate {d n : Nat} {dy : Nat → Shp} {g : Hp} {P : Pst} {x1 : Int} {x2 : Int} (hn : 100 ≤ n) (h : (i3 x1) ∧ ((x1 < 0) → Runs miX12_refuse d [.ref 53, I_ 1] n (W0 dy) (up2 (up2 g 53 1 0) 53 0 0) (fun v n' S' g' => V miX12_plate (d + 1) 25 [(0, .ref 53), (1, I_ x1), (2, I_ x2)] (v.toList ++ []) n' S' g' 0 0 P)) ∧ ((0 ≤ x1) → ((x1 < 6) → (0 ≤ x1 ∧ x1 < 6) ∧ ((0 ≤ (g 55 x1.toNat)) → (i3 x2) ∧ ((x2 < 3) → Runs miX12_refuse d [.ref 53, I_ 7] n (W0 dy) (up2 (up2 g 53 1 0) 53 0 0) (fun v n' S' g' => V miX12_plate (d + 1) 58 [(0, .ref 53), (1, I_ x1), (2, I_ x2)] (v.toList ++ []) n' S' g' 0 0 P)) ∧ ((3 ≤ x2) → ((x2 ≤ 8) → (i3 (2 * x2)) ∧ (((2 * x2) ≤ (g 55 x1.toNat)) → V miX12_plate (d + 1) 79 [(0, .ref 53), (1, I_ x1), (2, I_ x2), (3, I_ 0)] [] n (W0 dy) (up2 (up2 g 53 1 0) 53 0 0) 0 0 P) ∧ (((g 55 x1.toNat) < (2 * x2)) → Runs miX12_refuse d [.ref 53, I_ 4] n (W0 dy) (up2 (up2 g 53 1 0) 53 0 0) (fun v n' S' g' => V miX12_plate (d + 1) 76 [(0, .ref 53), (1, I_ x1), (2, I_ x2)] (v.toList ++ []) n' S' g' 0 0 P))) ∧ ((8 < x2) → Runs miX12_refuse d [.ref 53, I_ 7] n (W0 dy) (up2 (up2 g 53 1 0) 53 0 0) (fun v n' S' g' => V miX12_plate (d + 1) 58 [(0, .ref 53), (1, I_ x1), (2, I_ x2)] (v.toList ++ []) n' S' g' 0 0 P)))) ∧ (((g 55 x1.toNat) < 0) → Runs miX12_refuse d [.ref 53, I_ 3] n (W0 dy) (up2 (up2 g 53 1 0) 53 0 0) (fun v n' S' g' => V miX12_plate (d + 1) 40 [(0, .ref 53), (1, I_ x1), (2, I_ x2)] (v.toList ++ []) n' S' g' 0 0 P))) ∧ ((6 ≤ x1) → Runs miX12_refuse d [.ref 53, I_ 1] n (W0 dy) (up2 (up2 g 53 1 0) 53 0 0) (fun v n' S' g' => V miX12_plate (d + 1) 25 [(0, .ref 53), (1, I_ x1), (2, I_ x2)] (v.toList ++ []) n' S' g' 0 0 P)))) : Runs miX12_plate (d + 1) [.ref 53, I_ x1, I_ x2] n (W0 dy) g P := Runs.of rfl rfl deX12_plate (Nat.le_of_ble_eq_true rfl) (bX12_plate_0 hn h)
theorem lm12_218_common : LkM miX12_common 218 Lib.MathLoose.abs_long.x Lib.MathLoose.abs_long.code 2 .long := ⟨tbG_in (List.mem_append_right _ (List.mem_of_getElem? (i := 1392) (by decide +kernel))) rfl, tbG_in (List.mem_append_right _ (List.mem_of_getElem? (i := 568) (by decide +kernel))) rfl, tbG_in (List.mem_append_right _ (List.mem_of_getElem? (i := 15) (by decide +kernel))) rfl, tbG_in (List.mem_append_right _ (List.mem_of_getElem? (i := 569) (by decide +kernel))) rfl⟩
set_option maxHeartbeats 8000000 in
set_option maxRecDepth 4000 in
theorem bX12_common_0 {d n : Nat} {dy : Nat → Shp} {g : Hp} {P : Pst} {x0 : Int} {x2 : Int} (hn : 100 ≤ n) (h : (i6 x0) ∧ (i6 x2) ∧ V miX12_common (d + 1) 12 [(0, L_ x0), (2, L_ x2), (4, L_ (ab x0)), (6, L_ (ab x2))] [] n (W0 dy) g 0 0 P) : V miX12_common (d + 1) 0 [(0, L_ x0), (2, L_ x2)] [] n (W0 dy) g 0 0 P := by
  refine v_lload_n 0 0 rfl rfl rfl ?_
  have c1 := h.1
  have h := h.2
  refine v_mabsl (st := []) 1 rfl lm12_218_common rfl (Nat.zero_le _) (Nat.zero_le _) c1 ?_
  refine v_lstore 2 [1, 2, 0] rfl (by decide) rfl ?_
  refine v_lload_n 3 1 rfl rfl rfl ?_
  have c2 := h.1
  have h := h.2
  refine v_mabsl (st := []) 4 rfl lm12_218_common rfl (Nat.zero_le _) (Nat.zero_le _) c2 ?_
  refine v_lstore 5 [1, 2, 3, 0] rfl (by decide) rfl ?_
  exact h
set_option maxHeartbeats 8000000 in
set_option maxRecDepth 4000 in
theorem bX12_common_12 {d n : Nat} {dy : Nat → Shp} {g : Hp} {P : Pst} {x0 : Int} {x2 : Int} {x4 : Int} {x6 : Int} (hn : 100 ≤ n) (h : (i6 x6) ∧ ((x6 = 0) → P (some (L_ x4)) n (W0 dy) g) ∧ ((x6 ≠ 0) → (i6 x4) ∧ (x6 ≠ 0) ∧ V miX12_common (d + 1) 12 [(0, L_ x0), (2, L_ x2), (4, L_ x6), (6, L_ (x4.tmod x6))] [] n (W0 dy) g 0 0 P)) : V miX12_common (d + 1) 12 [(0, L_ x0), (2, L_ x2), (4, L_ x4), (6, L_ x6)] [] n (W0 dy) g 0 0 P := by
  refine v_lload 6 3 rfl rfl ?_
  refine v_lconst (v := 0) 7 rfl (by decide) ?_
  have c1 := h.1
  have h := h.2
  refine v_lif_eq 8 rfl rfl (tgt := 37) rfl c1 (by decide) (fun q2 => ?_) (fun q2 => ?_)
  · have h := h.1 q2
    refine v_lload 19 2 rfl rfl ?_
    exact v_ret (v := some (L_ x4)) 20 rfl (Nat.zero_le _) (Nat.zero_le _) trivial rfl h
  · have h := h.2 q2
    refine v_lload 10 2 rfl rfl ?_
    refine v_lload 11 3 rfl rfl ?_
    have c3 := h.1
    have h := h.2
    have c4 := h.1
    have h := h.2
    refine v_lrem 12 rfl c3 c1 c4 ?_
    refine v_lstore 13 [1, 2, 3, 4, 0] rfl (by decide) rfl ?_
    refine v_lload 14 3 rfl rfl ?_
    refine v_lstore 15 [1, 2, 0, 3, 4] rfl (by decide) rfl ?_
    refine v_lload 16 4 rfl rfl ?_
    refine v_lstore 17 [1, 2, 3, 0, 4] rfl (by decide) rfl ?_
    refine v_goto 18 rfl (tgt := 12) rfl ?_
    refine v_loc [0, 1, 2, 3] rfl ?_
    exact h
theorem wX12_common {d n : Nat} {dy : Nat → Shp} {g : Hp} {P : Pst} {x0 : Int} {x2 : Int} (hn : 100 ≤ n) (h : (i6 x0) ∧ (i6 x2) ∧ V miX12_common (d + 1) 12 [(0, L_ x0), (2, L_ x2), (4, L_ (ab x0)), (6, L_ (ab x2))] [] n (W0 dy) g 0 0 P) : Runs miX12_common (d + 1) [L_ x0, L_ x2] n (W0 dy) g P := Runs.of rfl rfl deX12_common (Nat.le_of_ble_eq_true rfl) (bX12_common_0 hn h)
theorem lv12_222_middle_11 : LkV miX12_middle miX12_isPart 222 1 11 := ⟨⟨⟨tbG_in (List.mem_append_right _ (List.mem_of_getElem? (i := 1400) (by decide +kernel))) rfl, tbG_in (List.mem_append_right _ (List.mem_of_getElem? (i := 9) (by decide +kernel))) rfl, tbG_in (List.mem_append_right _ (List.mem_of_getElem? (i := 1397) (by decide +kernel))) rfl⟩, ⟨by decide +kernel, by decide +kernel, by decide +kernel⟩, by decide⟩, tbG_in (List.mem_append_right _ (List.mem_of_getElem? (i := 1399) (by decide +kernel))) rfl, RX12, TX12, 58, rfl, tbG_in (List.mem_append_left _ (List.mem_of_getElem? (i := 56) (by decide +kernel))) rfl⟩
theorem lv12_174_middle_11 : LkV miX12_middle miX12_refuse 174 1 11 := ⟨⟨⟨tbG_in (List.mem_append_right _ (List.mem_of_getElem? (i := 1351) (by decide +kernel))) rfl, tbG_in (List.mem_append_right _ (List.mem_of_getElem? (i := 9) (by decide +kernel))) rfl, tbG_in (List.mem_append_right _ (List.mem_of_getElem? (i := 1348) (by decide +kernel))) rfl⟩, ⟨by decide +kernel, by decide +kernel, by decide +kernel⟩, by decide⟩, tbG_in (List.mem_append_right _ (List.mem_of_getElem? (i := 1350) (by decide +kernel))) rfl, RX12, TX12, 58, rfl, tbG_in (List.mem_append_left _ (List.mem_of_getElem? (i := 50) (by decide +kernel))) rfl⟩
theorem ls12_227_middle : LkS miX12_middle miX12_common 227 2 := ⟨⟨⟨tbG_in (List.mem_append_right _ (List.mem_of_getElem? (i := 1404) (by decide +kernel))) rfl, tbG_in (List.mem_append_right _ (List.mem_of_getElem? (i := 9) (by decide +kernel))) rfl, tbG_in (List.mem_append_right _ (List.mem_of_getElem? (i := 1402) (by decide +kernel))) rfl⟩, ⟨by decide +kernel, by decide +kernel, by decide +kernel⟩, by decide⟩, tbG_in (List.mem_append_right _ (List.mem_of_getElem? (i := 1403) (by decide +kernel))) rfl⟩
set_option maxHeartbeats 8000000 in
set_option maxRecDepth 4000 in
theorem bX12_middle_0 {d n : Nat} {dy : Nat → Shp} {g : Hp} {P : Pst} {x1 : Int} {x2 : Int} (hn : 100 ≤ n) (h : Runs miX12_isPart d [.ref 53, I_ x1] n (W0 dy) (up2 (up2 g 53 1 0) 53 0 0) (fun v n' S' g' => V miX12_middle (d + 1) 15 [(0, .ref 53), (1, I_ x1), (2, I_ x2)] (v.toList ++ []) n' S' g' 0 0 P)) : V miX12_middle (d + 1) 0 [(0, .ref 53), (1, I_ x1), (2, I_ x2)] [] n (W0 dy) g 0 0 P := by
  refine v_aload_n 0 0 rfl rfl rfl ?_
  refine v_iconst 1 rfl ?_
  refine v_putI 2 rfl fl12_148_11 (al 53 rfl hn) (wk53 dy) (by decide) rfl (wc53_1 dy) (by decide) ?_
  refine v_aload_n 3 0 rfl rfl rfl ?_
  refine v_iconst 4 rfl ?_
  refine v_putI 5 rfl fl12_152_11 (al 53 rfl hn) (wk53 dy) (by decide) rfl (wc53_0 dy) (by decide) ?_
  refine v_aload_n 6 0 rfl rfl rfl ?_
  refine v_iload_n 7 1 rfl rfl rfl ?_
  refine v_callV (st := []) [I_ x1] 8 rfl lv12_222_middle_11 (al 53 rfl hn) (wk53 dy) (by decide) rfl (Nat.le_refl _) (Nat.le_refl _) ?_
  exact h
set_option maxHeartbeats 8000000 in
set_option maxRecDepth 4000 in
theorem bX12_middle_15 {d n : Nat} {dy : Nat → Shp} {g : Hp} {P : Pst} {x1 : Int} {x2 : Int} {xs0 : Int} (hn : 100 ≤ n) (h : (i3 xs0) ∧ ((xs0 ≠ 0) → (0 ≤ x1 ∧ x1 < 60) ∧ (((g 57 x1.toNat) = 4) → (i3 x2) ∧ ((x2 < 0) → Runs miX12_refuse d [.ref 53, I_ 7] n (W0 dy) g (fun v n' S' g' => V miX12_middle (d + 1) 57 [(0, .ref 53), (1, I_ x1), (2, I_ x2)] (v.toList ++ []) n' S' g' 0 0 P)) ∧ ((0 ≤ x2) → ((x2 ≤ 3) → V miX12_middle (d + 1) 67 [(0, .ref 53), (1, I_ x1), (2, I_ x2), (3, L_ 0), (5, L_ 0), (7, I_ 0)] [] n (W0 dy) g 0 0 P) ∧ ((3 < x2) → Runs miX12_refuse d [.ref 53, I_ 7] n (W0 dy) g (fun v n' S' g' => V miX12_middle (d + 1) 57 [(0, .ref 53), (1, I_ x1), (2, I_ x2)] (v.toList ++ []) n' S' g' 0 0 P)))) ∧ (((g 57 x1.toNat) ≠ 4) → Runs miX12_refuse d [.ref 53, I_ 5] n (W0 dy) g (fun v n' S' g' => V miX12_middle (d + 1) 40 [(0, .ref 53), (1, I_ x1), (2, I_ x2)] (v.toList ++ []) n' S' g' 0 0 P))) ∧ ((xs0 = 0) → Runs miX12_refuse d [.ref 53, I_ 2] n (W0 dy) g (fun v n' S' g' => V miX12_middle (d + 1) 23 [(0, .ref 53), (1, I_ x1), (2, I_ x2)] (v.toList ++ []) n' S' g' 0 0 P))) : V miX12_middle (d + 1) 15 [(0, .ref 53), (1, I_ x1), (2, I_ x2)] [I_ xs0] n (W0 dy) g 0 0 P := by
  have c1 := h.1
  have h := h.2
  refine v_if_ne 9 rfl (tgt := 25) rfl c1 (fun q2 => ?_) (fun q2 => ?_)
  · have h := h.1 q2
    refine v_aload_n 15 0 rfl rfl rfl ?_
    refine v_gK 16 rfl fl12_20_11.r (al 53 rfl hn) (wk53 dy) (by decide) rfl (r := 57) (wc53_6 dy) ?_
    refine v_iload_n 17 1 rfl rfl rfl ?_
    have c3 := h.1
    have h := h.2
    refine v_ia (N := 60) 18 rfl (al 57 rfl hn) (wk57 dy) (wn57 dy) (by decide) c3 (y := g 57 x1.toNat) rfl ?_
    refine v_rng fun w4 => ?_
    have p5 : i3 (g 57 x1.toNat) := rI w4 (q := x1.toNat) (al 57 rfl hn) (wk57 dy) rfl rfl
    refine v_iconst 19 rfl ?_
    refine v_icmp_eq 20 rfl (tgt := 42) rfl p5 (by decide) (fun q6 => ?_) (fun q6 => ?_)
    · have h := h.1 q6
      refine v_iload_n 26 2 rfl rfl rfl ?_
      have c7 := h.1
      have h := h.2
      refine v_if_lt 27 rfl (tgt := 51) rfl c7 (fun q8 => ?_) (fun q8 => ?_)
      · have h := h.1 q8
        refine v_aload_n 31 0 rfl rfl rfl ?_
        refine v_bipush 32 rfl (by decide) ?_
        refine v_callV (st := []) [I_ 7] 33 rfl lv12_174_middle_11 (al 53 rfl hn) (wk53 dy) (by decide) rfl (Nat.le_refl _) (Nat.le_refl _) ?_
        exact h
      · have h := h.2 q8
        refine v_iload_n 28 2 rfl rfl rfl ?_
        refine v_iconst 29 rfl ?_
        refine v_icmp_le 30 rfl (tgt := 59) rfl c7 (by decide) (fun q9 => ?_) (fun q9 => ?_)
        · have h := h.1 q9
          refine v_lconst (v := 0) 36 rfl (by decide) ?_
          refine v_lstore_n 37 [1, 2, 3, 0] rfl rfl (by decide) rfl ?_
          refine v_lconst (v := 0) 38 rfl (by decide) ?_
          refine v_lstore 39 [1, 2, 3, 4, 0] rfl (by decide) rfl ?_
          refine v_iconst 40 rfl ?_
          refine v_istore 41 [1, 2, 3, 4, 5, 0] rfl (by decide) rfl ?_
          exact h
        · have h := h.2 q9
          refine v_aload_n 31 0 rfl rfl rfl ?_
          refine v_bipush 32 rfl (by decide) ?_
          refine v_callV (st := []) [I_ 7] 33 rfl lv12_174_middle_11 (al 53 rfl hn) (wk53 dy) (by decide) rfl (Nat.le_refl _) (Nat.le_refl _) ?_
          exact h
    · have h := h.2 q6
      refine v_aload_n 21 0 rfl rfl rfl ?_
      refine v_iconst 22 rfl ?_
      refine v_callV (st := []) [I_ 5] 23 rfl lv12_174_middle_11 (al 53 rfl hn) (wk53 dy) (by decide) rfl (Nat.le_refl _) (Nat.le_refl _) ?_
      exact h
  · have h := h.2 q2
    refine v_aload_n 10 0 rfl rfl rfl ?_
    refine v_iconst 11 rfl ?_
    refine v_callV (st := []) [I_ 2] 12 rfl lv12_174_middle_11 (al 53 rfl hn) (wk53 dy) (by decide) rfl (Nat.le_refl _) (Nat.le_refl _) ?_
    exact h
set_option maxHeartbeats 8000000 in
set_option maxRecDepth 4000 in
theorem bX12_middle_23 {d n : Nat} {dy : Nat → Shp} {g : Hp} {P : Pst} {x1 : Int} {x2 : Int} {xs0 : Int} (hn : 100 ≤ n) (h : (i3 xs0) ∧ P (some (L_ xs0)) n (W0 dy) g) : V miX12_middle (d + 1) 23 [(0, .ref 53), (1, I_ x1), (2, I_ x2)] [I_ xs0] n (W0 dy) g 0 0 P := by
  have c1 := h.1
  have h := h.2
  refine v_i2l 13 rfl c1 ?_
  exact v_ret (v := some (L_ xs0)) 14 rfl (Nat.zero_le _) (Nat.zero_le _) trivial rfl h
set_option maxHeartbeats 8000000 in
set_option maxRecDepth 4000 in
theorem bX12_middle_40 {d n : Nat} {dy : Nat → Shp} {g : Hp} {P : Pst} {x1 : Int} {x2 : Int} {xs0 : Int} (hn : 100 ≤ n) (h : (i3 xs0) ∧ P (some (L_ xs0)) n (W0 dy) g) : V miX12_middle (d + 1) 40 [(0, .ref 53), (1, I_ x1), (2, I_ x2)] [I_ xs0] n (W0 dy) g 0 0 P := by
  have c1 := h.1
  have h := h.2
  refine v_i2l 24 rfl c1 ?_
  exact v_ret (v := some (L_ xs0)) 25 rfl (Nat.zero_le _) (Nat.zero_le _) trivial rfl h
set_option maxHeartbeats 8000000 in
set_option maxRecDepth 4000 in
theorem bX12_middle_57 {d n : Nat} {dy : Nat → Shp} {g : Hp} {P : Pst} {x1 : Int} {x2 : Int} {xs0 : Int} (hn : 100 ≤ n) (h : (i3 xs0) ∧ P (some (L_ xs0)) n (W0 dy) g) : V miX12_middle (d + 1) 57 [(0, .ref 53), (1, I_ x1), (2, I_ x2)] [I_ xs0] n (W0 dy) g 0 0 P := by
  have c1 := h.1
  have h := h.2
  refine v_i2l 34 rfl c1 ?_
  exact v_ret (v := some (L_ xs0)) 35 rfl (Nat.zero_le _) (Nat.zero_le _) trivial rfl h
set_option maxHeartbeats 8000000 in
set_option maxRecDepth 4000 in
theorem bX12_middle_67 {d n : Nat} {dy : Nat → Shp} {g : Hp} {P : Pst} {x1 : Int} {x2 : Int} {x3 : Int} {x5 : Int} {x7 : Int} (hn : 100 ≤ n) (h : (0 ≤ x1 ∧ x1 < 60) ∧ (i3 x7) ∧ (((g 68 x1.toNat) ≤ x7) → Runs miX12_common d [L_ x5, L_ (3 * x3)] n (W0 dy) g (fun v n' S' g' => V miX12_middle (d + 1) 214 [(0, .ref 53), (1, I_ x1), (2, I_ x2), (3, L_ x3), (5, L_ x5), (7, L_ (3 * x3))] (v.toList ++ []) n' S' g' 0 0 P)) ∧ ((x7 < (g 68 x1.toNat)) → (i3 (x7 + 1)) ∧ (g 68 x1.toNat ≠ 0) ∧ ∀ y10 : Int, y10 = (8 * x1) + ((x7 + 1).tmod (g 68 x1.toNat)) → (0 ≤ (8 * x1) + x7 ∧ (8 * x1) + x7 < 480) ∧ (0 ≤ y10 ∧ y10 < 480) ∧ ∀ y21 : Int, y21 = ((g 69 (((8 * x1) + x7).toNat)) * (g 70 y10.toNat)) - ((g 69 y10.toNat) * (g 70 (((8 * x1) + x7).toNat))) → (i3 x2) ∧ ((2 ≤ x2) → (i3 ((g 70 (((8 * x1) + x7).toNat)) + (g 70 y10.toNat))) ∧ ∀ y29 : Int, y29 = x5 + (y21 * ((g 70 (((8 * x1) + x7).toNat)) + (g 70 y10.toNat))) → V miX12_middle (d + 1) 67 [(0, .ref 53), (1, I_ x1), (2, I_ x2), (3, L_ (x3 + y21)), (5, L_ y29), (7, I_ (x7 + 1))] [] n (W0 dy) g 0 0 P) ∧ ((x2 < 2) → (i3 ((g 69 (((8 * x1) + x7).toNat)) + (g 69 y10.toNat))) ∧ ∀ y35 : Int, y35 = x5 + (y21 * ((g 69 (((8 * x1) + x7).toNat)) + (g 69 y10.toNat))) → V miX12_middle (d + 1) 67 [(0, .ref 53), (1, I_ x1), (2, I_ x2), (3, L_ (x3 + y21)), (5, L_ y35), (7, I_ (x7 + 1))] [] n (W0 dy) g 0 0 P))) : V miX12_middle (d + 1) 67 [(0, .ref 53), (1, I_ x1), (2, I_ x2), (3, L_ x3), (5, L_ x5), (7, I_ x7)] [] n (W0 dy) g 0 0 P := by
  refine v_iload 42 5 rfl rfl ?_
  refine v_aload_n 43 0 rfl rfl rfl ?_
  refine v_gK 44 rfl fl12_53_11.r (al 53 rfl hn) (wk53 dy) (by decide) rfl (r := 68) (wc53_17 dy) ?_
  refine v_iload_n 45 1 rfl rfl rfl ?_
  have c1 := h.1
  have h := h.2
  refine v_ia (N := 60) 46 rfl (al 68 rfl hn) (wk68 dy) (wn68 dy) (by decide) c1 (y := g 68 x1.toNat) rfl ?_
  refine v_rng fun w2 => ?_
  have p3 : i3 (g 68 x1.toNat) := rI w2 (q := x1.toNat) (al 68 rfl hn) (wk68 dy) rfl rfl
  have c4 := h.1
  have h := h.2
  refine v_icmp_ge 47 rfl (tgt := 200) rfl c4 p3 (fun q5 => ?_) (fun q5 => ?_)
  · have h := h.1 q5
    refine v_ldc2 (v := 3) 125 rfl (tbG_in (List.mem_append_right _ (List.mem_of_getElem? (i := 1401) (by decide +kernel))) rfl) ?_
    refine v_lload_n 126 3 rfl rfl rfl ?_
    refine v_lmul 127 rfl ?_
    refine v_lstore 128 [1, 2, 3, 4, 5, 0] rfl (by decide) rfl ?_
    refine v_lload 129 4 rfl rfl ?_
    refine v_lload 130 5 rfl rfl ?_
    refine v_callS (st := []) [L_ x5, L_ (3 * x3)] 131 rfl ls12_227_middle rfl (Nat.lt_of_lt_of_le (by decide) hn) (Nat.le_refl _) (Nat.le_refl _) ?_
    exact h
  · have h := h.2 q5
    refine v_bipush 48 rfl (by decide) ?_
    refine v_iload_n 49 1 rfl rfl rfl ?_
    refine v_imul 50 rfl ?_
    refine v_iload 51 5 rfl rfl ?_
    refine v_iadd 52 rfl ?_
    refine v_istore 53 [1, 2, 3, 4, 5, 6, 0] rfl (by decide) rfl ?_
    refine v_bipush 54 rfl (by decide) ?_
    refine v_iload_n 55 1 rfl rfl rfl ?_
    refine v_imul 56 rfl ?_
    refine v_iload 57 5 rfl rfl ?_
    refine v_iconst 58 rfl ?_
    refine v_iadd 59 rfl ?_
    refine v_aload_n 60 0 rfl rfl rfl ?_
    refine v_gK 61 rfl fl12_53_11.r (al 53 rfl hn) (wk53 dy) (by decide) rfl (r := 68) (wc53_17 dy) ?_
    refine v_iload_n 62 1 rfl rfl rfl ?_
    refine v_ia (N := 60) 63 rfl (al 68 rfl hn) (wk68 dy) (wn68 dy) (by decide) c1 (y := g 68 x1.toNat) rfl ?_
    refine v_rng fun w6 => ?_
    have p7 : i3 (g 68 x1.toNat) := rI w6 (q := x1.toNat) (al 68 rfl hn) (wk68 dy) rfl rfl
    have c8 := h.1
    have h := h.2
    have c9 := h.1
    have h := h.2
    refine v_irem 64 rfl c8 p7 c9 ?_
    refine v_iadd 65 rfl ?_
    refine v_nmI (fun y10 ey10 => ?_)
    have h := h y10 ey10
    refine v_istore 66 [1, 2, 3, 4, 5, 6, 7, 0] rfl (by decide) rfl ?_
    refine v_aload_n 67 0 rfl rfl rfl ?_
    refine v_gK 68 rfl fl12_56_11.r (al 53 rfl hn) (wk53 dy) (by decide) rfl (r := 69) (wc53_18 dy) ?_
    refine v_iload 69 6 rfl rfl ?_
    have c11 := h.1
    have h := h.2
    refine v_ia (N := 480) 70 rfl (al 69 rfl hn) (wk69 dy) (wn69 dy) (by decide) c11 (y := g 69 (((8 * x1) + x7).toNat)) rfl ?_
    refine v_rng fun w12 => ?_
    have p13 : i3 (g 69 (((8 * x1) + x7).toNat)) := rI w12 (q := (((8 * x1) + x7).toNat)) (al 69 rfl hn) (wk69 dy) rfl rfl
    refine v_i2l 71 rfl p13 ?_
    refine v_aload_n 72 0 rfl rfl rfl ?_
    refine v_gK 73 rfl fl12_59_11.r (al 53 rfl hn) (wk53 dy) (by decide) rfl (r := 70) (wc53_19 dy) ?_
    refine v_iload 74 7 rfl rfl ?_
    have c14 := h.1
    have h := h.2
    refine v_ia (N := 480) 75 rfl (al 70 rfl hn) (wk70 dy) (wn70 dy) (by decide) c14 (y := g 70 y10.toNat) rfl ?_
    refine v_rng fun w15 => ?_
    have p16 : i3 (g 70 y10.toNat) := rI w15 (q := y10.toNat) (al 70 rfl hn) (wk70 dy) rfl rfl
    refine v_i2l 76 rfl p16 ?_
    refine v_lmul 77 rfl ?_
    refine v_aload_n 78 0 rfl rfl rfl ?_
    refine v_gK 79 rfl fl12_56_11.r (al 53 rfl hn) (wk53 dy) (by decide) rfl (r := 69) (wc53_18 dy) ?_
    refine v_iload 80 7 rfl rfl ?_
    refine v_ia (N := 480) 81 rfl (al 69 rfl hn) (wk69 dy) (wn69 dy) (by decide) c14 (y := g 69 y10.toNat) rfl ?_
    refine v_rng fun w17 => ?_
    have p18 : i3 (g 69 y10.toNat) := rI w17 (q := y10.toNat) (al 69 rfl hn) (wk69 dy) rfl rfl
    refine v_i2l 82 rfl p18 ?_
    refine v_aload_n 83 0 rfl rfl rfl ?_
    refine v_gK 84 rfl fl12_59_11.r (al 53 rfl hn) (wk53 dy) (by decide) rfl (r := 70) (wc53_19 dy) ?_
    refine v_iload 85 6 rfl rfl ?_
    refine v_ia (N := 480) 86 rfl (al 70 rfl hn) (wk70 dy) (wn70 dy) (by decide) c11 (y := g 70 (((8 * x1) + x7).toNat)) rfl ?_
    refine v_rng fun w19 => ?_
    have p20 : i3 (g 70 (((8 * x1) + x7).toNat)) := rI w19 (q := (((8 * x1) + x7).toNat)) (al 70 rfl hn) (wk70 dy) rfl rfl
    refine v_i2l 87 rfl p20 ?_
    refine v_lmul 88 rfl ?_
    refine v_lsub 89 rfl ?_
    refine v_nmL (fun y21 ey21 => ?_)
    have h := h y21 ey21
    refine v_lstore 90 [1, 2, 3, 4, 5, 6, 7, 8, 0] rfl (by decide) rfl ?_
    refine v_lload_n 91 3 rfl rfl rfl ?_
    refine v_lload 92 8 rfl rfl ?_
    refine v_ladd 93 rfl ?_
    refine v_lstore_n 94 [1, 2, 3, 0, 4, 5, 6, 7, 8] rfl rfl (by decide) rfl ?_
    refine v_lload 95 4 rfl rfl ?_
    refine v_lload 96 8 rfl rfl ?_
    refine v_iload_n 97 2 rfl rfl rfl ?_
    refine v_iconst 98 rfl ?_
    have c22 := h.1
    have h := h.2
    refine v_icmp_ge 99 rfl (tgt := 174) rfl c22 (by decide) (fun q23 => ?_) (fun q23 => ?_)
    · have h := h.1 q23
      refine v_aload_n 110 0 rfl rfl rfl ?_
      refine v_gK 111 rfl fl12_59_11.r (al 53 rfl hn) (wk53 dy) (by decide) rfl (r := 70) (wc53_19 dy) ?_
      refine v_iload 112 6 rfl rfl ?_
      refine v_ia (N := 480) 113 rfl (al 70 rfl hn) (wk70 dy) (wn70 dy) (by decide) c11 (y := g 70 (((8 * x1) + x7).toNat)) rfl ?_
      refine v_rng fun w24 => ?_
      have p25 : i3 (g 70 (((8 * x1) + x7).toNat)) := rI w24 (q := (((8 * x1) + x7).toNat)) (al 70 rfl hn) (wk70 dy) rfl rfl
      refine v_aload_n 114 0 rfl rfl rfl ?_
      refine v_gK 115 rfl fl12_59_11.r (al 53 rfl hn) (wk53 dy) (by decide) rfl (r := 70) (wc53_19 dy) ?_
      refine v_iload 116 7 rfl rfl ?_
      refine v_ia (N := 480) 117 rfl (al 70 rfl hn) (wk70 dy) (wn70 dy) (by decide) c14 (y := g 70 y10.toNat) rfl ?_
      refine v_rng fun w26 => ?_
      have p27 : i3 (g 70 y10.toNat) := rI w26 (q := y10.toNat) (al 70 rfl hn) (wk70 dy) rfl rfl
      refine v_iadd 118 rfl ?_
      have c28 := h.1
      have h := h.2
      refine v_i2l 119 rfl c28 ?_
      refine v_lmul 120 rfl ?_
      refine v_ladd 121 rfl ?_
      refine v_nmL (fun y29 ey29 => ?_)
      have h := h y29 ey29
      refine v_lstore 122 [1, 2, 3, 4, 0, 5, 6, 7, 8] rfl (by decide) rfl ?_
      refine v_iinc 123 5 [1, 2, 3, 4, 5, 0, 6, 7, 8] rfl rfl (by decide) rfl ?_
      refine v_goto 124 rfl (tgt := 67) rfl ?_
      refine v_loc [0, 1, 2, 3, 4, 5] rfl ?_
      exact h
    · have h := h.2 q23
      refine v_aload_n 100 0 rfl rfl rfl ?_
      refine v_gK 101 rfl fl12_56_11.r (al 53 rfl hn) (wk53 dy) (by decide) rfl (r := 69) (wc53_18 dy) ?_
      refine v_iload 102 6 rfl rfl ?_
      refine v_ia (N := 480) 103 rfl (al 69 rfl hn) (wk69 dy) (wn69 dy) (by decide) c11 (y := g 69 (((8 * x1) + x7).toNat)) rfl ?_
      refine v_rng fun w30 => ?_
      have p31 : i3 (g 69 (((8 * x1) + x7).toNat)) := rI w30 (q := (((8 * x1) + x7).toNat)) (al 69 rfl hn) (wk69 dy) rfl rfl
      refine v_aload_n 104 0 rfl rfl rfl ?_
      refine v_gK 105 rfl fl12_56_11.r (al 53 rfl hn) (wk53 dy) (by decide) rfl (r := 69) (wc53_18 dy) ?_
      refine v_iload 106 7 rfl rfl ?_
      refine v_ia (N := 480) 107 rfl (al 69 rfl hn) (wk69 dy) (wn69 dy) (by decide) c14 (y := g 69 y10.toNat) rfl ?_
      refine v_rng fun w32 => ?_
      have p33 : i3 (g 69 y10.toNat) := rI w32 (q := y10.toNat) (al 69 rfl hn) (wk69 dy) rfl rfl
      refine v_iadd 108 rfl ?_
      refine v_goto 109 rfl (tgt := 189) rfl ?_
      have c34 := h.1
      have h := h.2
      refine v_i2l 119 rfl c34 ?_
      refine v_lmul 120 rfl ?_
      refine v_ladd 121 rfl ?_
      refine v_nmL (fun y35 ey35 => ?_)
      have h := h y35 ey35
      refine v_lstore 122 [1, 2, 3, 4, 0, 5, 6, 7, 8] rfl (by decide) rfl ?_
      refine v_iinc 123 5 [1, 2, 3, 4, 5, 0, 6, 7, 8] rfl rfl (by decide) rfl ?_
      refine v_goto 124 rfl (tgt := 67) rfl ?_
      refine v_loc [0, 1, 2, 3, 4, 5] rfl ?_
      exact h
set_option maxHeartbeats 8000000 in
set_option maxRecDepth 4000 in
theorem bX12_middle_214 {d n : Nat} {dy : Nat → Shp} {g : Hp} {P : Pst} {x1 : Int} {x2 : Int} {x3 : Int} {x5 : Int} {x7 : Int} {xs0 : Int} (hn : 100 ≤ n) (h : (i6 x7) ∧ ((0 ≤ x7) → (i3 x2) ∧ (i3 (x2.tmod 2)) ∧ (((x2.tmod 2) ≠ 0) → (i6 (xs0 * 1)) ∧ (xs0 * 1 ≠ 0) ∧ P (some (L_ (x7.tdiv (xs0 * 1)))) n (W0 dy) g) ∧ (((x2.tmod 2) = 0) → (i6 x5) ∧ (i6 (xs0 * 1)) ∧ (xs0 * 1 ≠ 0) ∧ P (some (L_ (x5.tdiv (xs0 * 1)))) n (W0 dy) g)) ∧ ((x7 < 0) → (i3 x2) ∧ (i3 (x2.tmod 2)) ∧ (((x2.tmod 2) ≠ 0) → (i6 (xs0 * ((-1)))) ∧ (xs0 * ((-1)) ≠ 0) ∧ P (some (L_ (x7.tdiv (xs0 * ((-1)))))) n (W0 dy) g) ∧ (((x2.tmod 2) = 0) → (i6 x5) ∧ (i6 (xs0 * ((-1)))) ∧ (xs0 * ((-1)) ≠ 0) ∧ P (some (L_ (x5.tdiv (xs0 * ((-1)))))) n (W0 dy) g))) : V miX12_middle (d + 1) 214 [(0, .ref 53), (1, I_ x1), (2, I_ x2), (3, L_ x3), (5, L_ x5), (7, L_ x7)] [L_ xs0] n (W0 dy) g 0 0 P := by
  refine v_lload 132 5 rfl rfl ?_
  refine v_lconst (v := 0) 133 rfl (by decide) ?_
  have c1 := h.1
  have h := h.2
  refine v_lif_ge 134 rfl rfl (tgt := 227) rfl c1 (by decide) (fun q2 => ?_) (fun q2 => ?_)
  · have h := h.1 q2
    refine v_lconst (v := 1) 138 rfl (by decide) ?_
    refine v_lmul 139 rfl ?_
    refine v_lstore 140 [1, 2, 3, 4, 5, 6, 0] rfl (by decide) rfl ?_
    refine v_iload_n 141 2 rfl rfl rfl ?_
    refine v_iconst 142 rfl ?_
    have c3 := h.1
    have h := h.2
    refine v_irem 143 rfl c3 (by decide) (by decide) ?_
    have c4 := h.1
    have h := h.2
    refine v_if_ne 144 rfl (tgt := 245) rfl c4 (fun q5 => ?_) (fun q5 => ?_)
    · have h := h.1 q5
      refine v_lload 149 5 rfl rfl ?_
      refine v_lload 150 6 rfl rfl ?_
      have c6 := h.1
      have h := h.2
      have c7 := h.1
      have h := h.2
      refine v_ldiv 151 rfl c1 c6 c7 ?_
      exact v_ret (v := some (L_ (x7.tdiv (xs0 * 1)))) 152 rfl (Nat.zero_le _) (Nat.zero_le _) trivial rfl h
    · have h := h.2 q5
      refine v_lload 145 4 rfl rfl ?_
      refine v_lload 146 6 rfl rfl ?_
      have c8 := h.1
      have h := h.2
      have c9 := h.1
      have h := h.2
      have c10 := h.1
      have h := h.2
      refine v_ldiv 147 rfl c8 c9 c10 ?_
      refine v_goto 148 rfl (tgt := 250) rfl ?_
      exact v_ret (v := some (L_ (x5.tdiv (xs0 * 1)))) 152 rfl (Nat.zero_le _) (Nat.zero_le _) trivial rfl h
  · have h := h.2 q2
    refine v_ldc2 (v := (-1)) 136 rfl (tbG_in (List.mem_append_right _ (List.mem_of_getElem? (i := 1334) (by decide +kernel))) rfl) ?_
    refine v_goto 137 rfl (tgt := 228) rfl ?_
    refine v_lmul 139 rfl ?_
    refine v_lstore 140 [1, 2, 3, 4, 5, 6, 0] rfl (by decide) rfl ?_
    refine v_iload_n 141 2 rfl rfl rfl ?_
    refine v_iconst 142 rfl ?_
    have c11 := h.1
    have h := h.2
    refine v_irem 143 rfl c11 (by decide) (by decide) ?_
    have c12 := h.1
    have h := h.2
    refine v_if_ne 144 rfl (tgt := 245) rfl c12 (fun q13 => ?_) (fun q13 => ?_)
    · have h := h.1 q13
      refine v_lload 149 5 rfl rfl ?_
      refine v_lload 150 6 rfl rfl ?_
      have c14 := h.1
      have h := h.2
      have c15 := h.1
      have h := h.2
      refine v_ldiv 151 rfl c1 c14 c15 ?_
      exact v_ret (v := some (L_ (x7.tdiv (xs0 * ((-1)))))) 152 rfl (Nat.zero_le _) (Nat.zero_le _) trivial rfl h
    · have h := h.2 q13
      refine v_lload 145 4 rfl rfl ?_
      refine v_lload 146 6 rfl rfl ?_
      have c16 := h.1
      have h := h.2
      have c17 := h.1
      have h := h.2
      have c18 := h.1
      have h := h.2
      refine v_ldiv 147 rfl c16 c17 c18 ?_
      refine v_goto 148 rfl (tgt := 250) rfl ?_
      exact v_ret (v := some (L_ (x5.tdiv (xs0 * ((-1)))))) 152 rfl (Nat.zero_le _) (Nat.zero_le _) trivial rfl h
theorem wX12_middle {d n : Nat} {dy : Nat → Shp} {g : Hp} {P : Pst} {x1 : Int} {x2 : Int} (hn : 100 ≤ n) (h : Runs miX12_isPart d [.ref 53, I_ x1] n (W0 dy) (up2 (up2 g 53 1 0) 53 0 0) (fun v n' S' g' => V miX12_middle (d + 1) 15 [(0, .ref 53), (1, I_ x1), (2, I_ x2)] (v.toList ++ []) n' S' g' 0 0 P)) : Runs miX12_middle (d + 1) [.ref 53, I_ x1, I_ x2] n (W0 dy) g P := Runs.of rfl rfl deX12_middle (Nat.le_of_ble_eq_true rfl) (bX12_middle_0 hn h)
set_option maxHeartbeats 8000000 in
set_option maxRecDepth 4000 in
theorem bX12_isPart_0 {d n : Nat} {dy : Nat → Shp} {g : Hp} {P : Pst} {x1 : Int} (hn : 100 ≤ n) (h : (i3 x1) ∧ ((x1 < 0) → P (some (I_ 0)) n (W0 dy) g) ∧ ((0 ≤ x1) → (((g 53 5) ≤ x1) → P (some (I_ 0)) n (W0 dy) g) ∧ ((x1 < (g 53 5)) → P (some (I_ 1)) n (W0 dy) g))) : V miX12_isPart d 0 [(0, .ref 53), (1, I_ x1)] [] n (W0 dy) g 0 0 P := by
  refine v_iload_n 0 1 rfl rfl rfl ?_
  have c1 := h.1
  have h := h.2
  refine v_if_lt 1 rfl (tgt := 16) rfl c1 (fun q2 => ?_) (fun q2 => ?_)
  · have h := h.1 q2
    refine v_iconst 8 rfl ?_
    exact v_ret (v := some (I_ 0)) 9 rfl (Nat.zero_le _) (Nat.zero_le _) (Or.inl rfl) rfl h
  · have h := h.2 q2
    refine v_iload_n 2 1 rfl rfl rfl ?_
    refine v_aload_n 3 0 rfl rfl rfl ?_
    refine v_gI 4 rfl fl12_169_11.r (al 53 rfl hn) (wk53 dy) (by decide) rfl (wc53_5 dy) (x := g 53 5) rfl ?_
    refine v_rng fun w3 => ?_
    have p4 : i3 (g 53 5) := rI w3 (q := 5) (al 53 rfl hn) (wk53 dy) rfl rfl
    refine v_icmp_ge 5 rfl (tgt := 16) rfl c1 p4 (fun q5 => ?_) (fun q5 => ?_)
    · have h := h.1 q5
      refine v_iconst 8 rfl ?_
      exact v_ret (v := some (I_ 0)) 9 rfl (Nat.zero_le _) (Nat.zero_le _) (Or.inl rfl) rfl h
    · have h := h.2 q5
      refine v_iconst 6 rfl ?_
      refine v_goto 7 rfl (tgt := 17) rfl ?_
      exact v_ret (v := some (I_ 1)) 9 rfl (Nat.zero_le _) (Nat.zero_le _) (Or.inr rfl) rfl h
theorem wX12_isPart {d n : Nat} {dy : Nat → Shp} {g : Hp} {P : Pst} {x1 : Int} (hn : 100 ≤ n) (h : (i3 x1) ∧ ((x1 < 0) → P (some (I_ 0)) n (W0 dy) g) ∧ ((0 ≤ x1) → (((g 53 5) ≤ x1) → P (some (I_ 0)) n (W0 dy) g) ∧ ((x1 < (g 53 5)) → P (some (I_ 1)) n (W0 dy) g))) : Runs miX12_isPart d [.ref 53, I_ x1] n (W0 dy) g P := Runs.of rfl rfl deX12_isPart (Nat.le_of_ble_eq_true rfl) (bX12_isPart_0 hn h)
set_option maxHeartbeats 8000000 in
set_option maxRecDepth 4000 in
theorem bX12_isRod_0 {d n : Nat} {dy : Nat → Shp} {g : Hp} {P : Pst} {x1 : Int} (hn : 100 ≤ n) (h : (0 ≤ x1 ∧ x1 < 60) ∧ (((g 57 x1.toNat) = 2) → P (some (I_ 1)) n (W0 dy) g) ∧ (((g 57 x1.toNat) ≠ 2) → (((g 57 x1.toNat) ≠ 3) → P (some (I_ 0)) n (W0 dy) g) ∧ (((g 57 x1.toNat) = 3) → P (some (I_ 1)) n (W0 dy) g))) : V miX12_isRod d 0 [(0, .ref 53), (1, I_ x1)] [] n (W0 dy) g 0 0 P := by
  refine v_aload_n 0 0 rfl rfl rfl ?_
  refine v_gK 1 rfl fl12_20_11.r (al 53 rfl hn) (wk53 dy) (by decide) rfl (r := 57) (wc53_6 dy) ?_
  refine v_iload_n 2 1 rfl rfl rfl ?_
  have c1 := h.1
  have h := h.2
  refine v_ia (N := 60) 3 rfl (al 57 rfl hn) (wk57 dy) (wn57 dy) (by decide) c1 (y := g 57 x1.toNat) rfl ?_
  refine v_rng fun w2 => ?_
  have p3 : i3 (g 57 x1.toNat) := rI w2 (q := x1.toNat) (al 57 rfl hn) (wk57 dy) rfl rfl
  refine v_iconst 4 rfl ?_
  refine v_icmp_eq 5 rfl (tgt := 20) rfl p3 (by decide) (fun q4 => ?_) (fun q4 => ?_)
  · have h := h.1 q4
    refine v_iconst 12 rfl ?_
    refine v_goto 13 rfl (tgt := 25) rfl ?_
    exact v_ret (v := some (I_ 1)) 15 rfl (Nat.zero_le _) (Nat.zero_le _) (Or.inr rfl) rfl h
  · have h := h.2 q4
    refine v_aload_n 6 0 rfl rfl rfl ?_
    refine v_gK 7 rfl fl12_20_11.r (al 53 rfl hn) (wk53 dy) (by decide) rfl (r := 57) (wc53_6 dy) ?_
    refine v_iload_n 8 1 rfl rfl rfl ?_
    refine v_ia (N := 60) 9 rfl (al 57 rfl hn) (wk57 dy) (wn57 dy) (by decide) c1 (y := g 57 x1.toNat) rfl ?_
    refine v_rng fun w5 => ?_
    have p6 : i3 (g 57 x1.toNat) := rI w5 (q := x1.toNat) (al 57 rfl hn) (wk57 dy) rfl rfl
    refine v_iconst 10 rfl ?_
    refine v_icmp_ne 11 rfl (tgt := 24) rfl p6 (by decide) (fun q7 => ?_) (fun q7 => ?_)
    · have h := h.1 q7
      refine v_iconst 14 rfl ?_
      exact v_ret (v := some (I_ 0)) 15 rfl (Nat.zero_le _) (Nat.zero_le _) (Or.inl rfl) rfl h
    · have h := h.2 q7
      refine v_iconst 12 rfl ?_
      refine v_goto 13 rfl (tgt := 25) rfl ?_
      exact v_ret (v := some (I_ 1)) 15 rfl (Nat.zero_le _) (Nat.zero_le _) (Or.inr rfl) rfl h
theorem wX12_isRod {d n : Nat} {dy : Nat → Shp} {g : Hp} {P : Pst} {x1 : Int} (hn : 100 ≤ n) (h : (0 ≤ x1 ∧ x1 < 60) ∧ (((g 57 x1.toNat) = 2) → P (some (I_ 1)) n (W0 dy) g) ∧ (((g 57 x1.toNat) ≠ 2) → (((g 57 x1.toNat) ≠ 3) → P (some (I_ 0)) n (W0 dy) g) ∧ (((g 57 x1.toNat) = 3) → P (some (I_ 1)) n (W0 dy) g))) : Runs miX12_isRod d [.ref 53, I_ x1] n (W0 dy) g P := Runs.of rfl rfl deX12_isRod (Nat.le_of_ble_eq_true rfl) (bX12_isRod_0 hn h)
set_option maxHeartbeats 8000000 in
set_option maxRecDepth 4000 in
theorem bX12_topOf_0 {d n : Nat} {dy : Nat → Shp} {g : Hp} {P : Pst} {x1 : Int} (hn : 100 ≤ n) (h : V miX12_topOf d 2 [(0, .ref 53), (1, I_ x1), (2, I_ x1)] [] n (W0 dy) g 0 0 P) : V miX12_topOf d 0 [(0, .ref 53), (1, I_ x1)] [] n (W0 dy) g 0 0 P := by
  refine v_iload_n 0 1 rfl rfl rfl ?_
  refine v_istore_n 1 [1, 2, 0] rfl rfl (by decide) rfl ?_
  exact h
set_option maxHeartbeats 8000000 in
set_option maxRecDepth 4000 in
theorem bX12_topOf_2 {d n : Nat} {dy : Nat → Shp} {g : Hp} {P : Pst} {x1 : Int} {x2 : Int} (hn : 100 ≤ n) (h : (0 ≤ x2 ∧ x2 < 60) ∧ (((g 60 x2.toNat) < 0) → P (some (I_ x2)) n (W0 dy) g) ∧ ((0 ≤ (g 60 x2.toNat)) → V miX12_topOf d 2 [(0, .ref 53), (1, I_ x1), (2, I_ (g 60 x2.toNat))] [] n (W0 dy) g 0 0 P)) : V miX12_topOf d 2 [(0, .ref 53), (1, I_ x1), (2, I_ x2)] [] n (W0 dy) g 0 0 P := by
  refine v_aload_n 2 0 rfl rfl rfl ?_
  refine v_gK 3 rfl fl12_29_11.r (al 53 rfl hn) (wk53 dy) (by decide) rfl (r := 60) (wc53_9 dy) ?_
  refine v_iload_n 4 2 rfl rfl rfl ?_
  have c1 := h.1
  have h := h.2
  refine v_ia (N := 60) 5 rfl (al 60 rfl hn) (wk60 dy) (wn60 dy) (by decide) c1 (y := g 60 x2.toNat) rfl ?_
  refine v_rng fun w2 => ?_
  have p3 : i3 (g 60 x2.toNat) := rI w2 (q := x2.toNat) (al 60 rfl hn) (wk60 dy) rfl rfl
  refine v_if_lt 6 rfl (tgt := 21) rfl p3 (fun q4 => ?_) (fun q4 => ?_)
  · have h := h.1 q4
    refine v_iload_n 13 2 rfl rfl rfl ?_
    exact v_ret (v := some (I_ x2)) 14 rfl (Nat.zero_le _) (Nat.zero_le _) trivial rfl h
  · have h := h.2 q4
    refine v_aload_n 7 0 rfl rfl rfl ?_
    refine v_gK 8 rfl fl12_29_11.r (al 53 rfl hn) (wk53 dy) (by decide) rfl (r := 60) (wc53_9 dy) ?_
    refine v_iload_n 9 2 rfl rfl rfl ?_
    refine v_ia (N := 60) 10 rfl (al 60 rfl hn) (wk60 dy) (wn60 dy) (by decide) c1 (y := g 60 x2.toNat) rfl ?_
    refine v_rng fun w5 => ?_
    have p6 : i3 (g 60 x2.toNat) := rI w5 (q := x2.toNat) (al 60 rfl hn) (wk60 dy) rfl rfl
    refine v_istore_n 11 [1, 2, 0] rfl rfl (by decide) rfl ?_
    refine v_goto 12 rfl (tgt := 2) rfl ?_
    exact h
theorem wX12_topOf {d n : Nat} {dy : Nat → Shp} {g : Hp} {P : Pst} {x1 : Int} (hn : 100 ≤ n) (h : V miX12_topOf d 2 [(0, .ref 53), (1, I_ x1), (2, I_ x1)] [] n (W0 dy) g 0 0 P) : Runs miX12_topOf d [.ref 53, I_ x1] n (W0 dy) g P := Runs.of rfl rfl deX12_topOf (Nat.le_of_ble_eq_true rfl) (bX12_topOf_0 hn h)
set_option maxHeartbeats 8000000 in
set_option maxRecDepth 4000 in
theorem bX12_heightOf_0 {d n : Nat} {dy : Nat → Shp} {g : Hp} {P : Pst} {x1 : Int} (hn : 100 ≤ n) (h : V miX12_heightOf d 4 [(0, .ref 53), (1, I_ x1), (2, I_ 0), (3, I_ x1)] [] n (W0 dy) g 0 0 P) : V miX12_heightOf d 0 [(0, .ref 53), (1, I_ x1)] [] n (W0 dy) g 0 0 P := by
  refine v_iconst 0 rfl ?_
  refine v_istore_n 1 [1, 2, 0] rfl rfl (by decide) rfl ?_
  refine v_iload_n 2 1 rfl rfl rfl ?_
  refine v_istore_n 3 [1, 2, 3, 0] rfl rfl (by decide) rfl ?_
  exact h
set_option maxHeartbeats 8000000 in
set_option maxRecDepth 4000 in
theorem bX12_heightOf_4 {d n : Nat} {dy : Nat → Shp} {g : Hp} {P : Pst} {x1 : Int} {x2 : Int} {x3 : Int} (hn : 100 ≤ n) (h : (0 ≤ x3 ∧ x3 < 60) ∧ (((g 60 x3.toNat) < 0) → P (some (I_ x2)) n (W0 dy) g) ∧ ((0 ≤ (g 60 x3.toNat)) → V miX12_heightOf d 4 [(0, .ref 53), (1, I_ x1), (2, I_ (x2 + (g 62 x3.toNat))), (3, I_ (g 60 x3.toNat))] [] n (W0 dy) g 0 0 P)) : V miX12_heightOf d 4 [(0, .ref 53), (1, I_ x1), (2, I_ x2), (3, I_ x3)] [] n (W0 dy) g 0 0 P := by
  refine v_aload_n 4 0 rfl rfl rfl ?_
  refine v_gK 5 rfl fl12_29_11.r (al 53 rfl hn) (wk53 dy) (by decide) rfl (r := 60) (wc53_9 dy) ?_
  refine v_iload_n 6 3 rfl rfl rfl ?_
  have c1 := h.1
  have h := h.2
  refine v_ia (N := 60) 7 rfl (al 60 rfl hn) (wk60 dy) (wn60 dy) (by decide) c1 (y := g 60 x3.toNat) rfl ?_
  refine v_rng fun w2 => ?_
  have p3 : i3 (g 60 x3.toNat) := rI w2 (q := x3.toNat) (al 60 rfl hn) (wk60 dy) rfl rfl
  refine v_if_lt 8 rfl (tgt := 32) rfl p3 (fun q4 => ?_) (fun q4 => ?_)
  · have h := h.1 q4
    refine v_iload_n 22 2 rfl rfl rfl ?_
    exact v_ret (v := some (I_ x2)) 23 rfl (Nat.zero_le _) (Nat.zero_le _) trivial rfl h
  · have h := h.2 q4
    refine v_iload_n 9 2 rfl rfl rfl ?_
    refine v_aload_n 10 0 rfl rfl rfl ?_
    refine v_gK 11 rfl fl12_35_11.r (al 53 rfl hn) (wk53 dy) (by decide) rfl (r := 62) (wc53_11 dy) ?_
    refine v_iload_n 12 3 rfl rfl rfl ?_
    refine v_ia (N := 60) 13 rfl (al 62 rfl hn) (wk62 dy) (wn62 dy) (by decide) c1 (y := g 62 x3.toNat) rfl ?_
    refine v_rng fun w5 => ?_
    have p6 : i3 (g 62 x3.toNat) := rI w5 (q := x3.toNat) (al 62 rfl hn) (wk62 dy) rfl rfl
    refine v_iadd 14 rfl ?_
    refine v_istore_n 15 [1, 2, 0, 3] rfl rfl (by decide) rfl ?_
    refine v_aload_n 16 0 rfl rfl rfl ?_
    refine v_gK 17 rfl fl12_29_11.r (al 53 rfl hn) (wk53 dy) (by decide) rfl (r := 60) (wc53_9 dy) ?_
    refine v_iload_n 18 3 rfl rfl rfl ?_
    refine v_ia (N := 60) 19 rfl (al 60 rfl hn) (wk60 dy) (wn60 dy) (by decide) c1 (y := g 60 x3.toNat) rfl ?_
    refine v_rng fun w7 => ?_
    have p8 : i3 (g 60 x3.toNat) := rI w7 (q := x3.toNat) (al 60 rfl hn) (wk60 dy) rfl rfl
    refine v_istore_n 20 [1, 2, 3, 0] rfl rfl (by decide) rfl ?_
    refine v_goto 21 rfl (tgt := 4) rfl ?_
    exact h
theorem wX12_heightOf {d n : Nat} {dy : Nat → Shp} {g : Hp} {P : Pst} {x1 : Int} (hn : 100 ≤ n) (h : V miX12_heightOf d 4 [(0, .ref 53), (1, I_ x1), (2, I_ 0), (3, I_ x1)] [] n (W0 dy) g 0 0 P) : Runs miX12_heightOf d [.ref 53, I_ x1] n (W0 dy) g P := Runs.of rfl rfl deX12_heightOf (Nat.le_of_ble_eq_true rfl) (bX12_heightOf_0 hn h)
theorem lv12_222_part_11 : LkV miX12_part miX12_isPart 222 1 11 := ⟨⟨⟨tbG_in (List.mem_append_right _ (List.mem_of_getElem? (i := 1400) (by decide +kernel))) rfl, tbG_in (List.mem_append_right _ (List.mem_of_getElem? (i := 9) (by decide +kernel))) rfl, tbG_in (List.mem_append_right _ (List.mem_of_getElem? (i := 1397) (by decide +kernel))) rfl⟩, ⟨by decide +kernel, by decide +kernel, by decide +kernel⟩, by decide⟩, tbG_in (List.mem_append_right _ (List.mem_of_getElem? (i := 1399) (by decide +kernel))) rfl, RX12, TX12, 58, rfl, tbG_in (List.mem_append_left _ (List.mem_of_getElem? (i := 56) (by decide +kernel))) rfl⟩
theorem lv12_174_part_11 : LkV miX12_part miX12_refuse 174 1 11 := ⟨⟨⟨tbG_in (List.mem_append_right _ (List.mem_of_getElem? (i := 1351) (by decide +kernel))) rfl, tbG_in (List.mem_append_right _ (List.mem_of_getElem? (i := 9) (by decide +kernel))) rfl, tbG_in (List.mem_append_right _ (List.mem_of_getElem? (i := 1348) (by decide +kernel))) rfl⟩, ⟨by decide +kernel, by decide +kernel, by decide +kernel⟩, by decide⟩, tbG_in (List.mem_append_right _ (List.mem_of_getElem? (i := 1350) (by decide +kernel))) rfl, RX12, TX12, 58, rfl, tbG_in (List.mem_append_left _ (List.mem_of_getElem? (i := 50) (by decide +kernel))) rfl⟩
theorem lv12_231_part_11 : LkV miX12_part miX12_heightOf 231 1 11 := ⟨⟨⟨tbG_in (List.mem_append_right _ (List.mem_of_getElem? (i := 1412) (by decide +kernel))) rfl, tbG_in (List.mem_append_right _ (List.mem_of_getElem? (i := 9) (by decide +kernel))) rfl, tbG_in (List.mem_append_right _ (List.mem_of_getElem? (i := 1409) (by decide +kernel))) rfl⟩, ⟨by decide +kernel, by decide +kernel, by decide +kernel⟩, by decide⟩, tbG_in (List.mem_append_right _ (List.mem_of_getElem? (i := 1411) (by decide +kernel))) rfl, RX12, TX12, 58, rfl, tbG_in (List.mem_append_left _ (List.mem_of_getElem? (i := 57) (by decide +kernel))) rfl⟩
theorem lv12_234_part_11 : LkV miX12_part miX12_topOf 234 1 11 := ⟨⟨⟨tbG_in (List.mem_append_right _ (List.mem_of_getElem? (i := 1416) (by decide +kernel))) rfl, tbG_in (List.mem_append_right _ (List.mem_of_getElem? (i := 9) (by decide +kernel))) rfl, tbG_in (List.mem_append_right _ (List.mem_of_getElem? (i := 1413) (by decide +kernel))) rfl⟩, ⟨by decide +kernel, by decide +kernel, by decide +kernel⟩, by decide⟩, tbG_in (List.mem_append_right _ (List.mem_of_getElem? (i := 1415) (by decide +kernel))) rfl, RX12, TX12, 58, rfl, tbG_in (List.mem_append_left _ (List.mem_of_getElem? (i := 58) (by decide +kernel))) rfl⟩
set_option maxHeartbeats 8000000 in
set_option maxRecDepth 4000 in
theorem bX12_part_0 {d n : Nat} {dy : Nat → Shp} {g : Hp} {P : Pst} {x1 : Int} {x2 : Int} (hn : 100 ≤ n) (h : Runs miX12_isPart d [.ref 53, I_ x1] n (W0 dy) (up2 (up2 g 53 1 0) 53 0 0) (fun v n' S' g' => V miX12_part (d + 1) 15 [(0, .ref 53), (1, I_ x1), (2, I_ x2)] (v.toList ++ []) n' S' g' 0 0 P)) : V miX12_part (d + 1) 0 [(0, .ref 53), (1, I_ x1), (2, I_ x2)] [] n (W0 dy) g 0 0 P := by
  refine v_aload_n 0 0 rfl rfl rfl ?_
  refine v_iconst 1 rfl ?_
  refine v_putI 2 rfl fl12_148_11 (al 53 rfl hn) (wk53 dy) (by decide) rfl (wc53_1 dy) (by decide) ?_
  refine v_aload_n 3 0 rfl rfl rfl ?_
  refine v_iconst 4 rfl ?_
  refine v_putI 5 rfl fl12_152_11 (al 53 rfl hn) (wk53 dy) (by decide) rfl (wc53_0 dy) (by decide) ?_
  refine v_aload_n 6 0 rfl rfl rfl ?_
  refine v_iload_n 7 1 rfl rfl rfl ?_
  refine v_callV (st := []) [I_ x1] 8 rfl lv12_222_part_11 (al 53 rfl hn) (wk53 dy) (by decide) rfl (Nat.le_refl _) (Nat.le_refl _) ?_
  exact h
set_option maxHeartbeats 8000000 in
set_option maxRecDepth 4000 in
theorem bX12_part_15 {d n : Nat} {dy : Nat → Shp} {g : Hp} {P : Pst} {x1 : Int} {x2 : Int} {xs0 : Int} (hn : 100 ≤ n) (h : (i3 xs0) ∧ ((xs0 ≠ 0) → (i3 x2) ∧ ((x2 < 0 ∨ 6 < x2) → Runs miX12_refuse d [.ref 53, I_ 7] n (W0 dy) g (fun v n' S' g' => V miX12_part (d + 1) 122 [(0, .ref 53), (1, I_ x1), (2, I_ x2)] (v.toList ++ []) n' S' g' 0 0 P)) ∧ (x2 = 0 → (0 ≤ x1 ∧ x1 < 60) ∧ P (some (I_ (g 57 x1.toNat))) n (W0 dy) g) ∧ (x2 = 1 → (0 ≤ x1 ∧ x1 < 60) ∧ P (some (I_ (g 63 x1.toNat))) n (W0 dy) g) ∧ (x2 = 2 → (0 ≤ x1 ∧ x1 < 60) ∧ P (some (I_ (g 60 x1.toNat))) n (W0 dy) g) ∧ (x2 = 3 → (0 ≤ x1 ∧ x1 < 60) ∧ P (some (I_ (g 61 x1.toNat))) n (W0 dy) g) ∧ (x2 = 4 → (0 ≤ x1 ∧ x1 < 60) ∧ P (some (I_ (g 62 x1.toNat))) n (W0 dy) g) ∧ (x2 = 5 → Runs miX12_heightOf d [.ref 53, I_ x1] n (W0 dy) g (fun v n' S' g' => V miX12_part (d + 1) 109 [(0, .ref 53), (1, I_ x1), (2, I_ x2)] (v.toList ++ []) n' S' g' 0 0 P)) ∧ (x2 = 6 → Runs miX12_topOf d [.ref 53, I_ x1] n (W0 dy) g (fun v n' S' g' => V miX12_part (d + 1) 115 [(0, .ref 53), (1, I_ x1), (2, I_ x2)] (v.toList ++ []) n' S' g' 0 0 P))) ∧ ((xs0 = 0) → Runs miX12_refuse d [.ref 53, I_ 2] n (W0 dy) g (fun v n' S' g' => V miX12_part (d + 1) 23 [(0, .ref 53), (1, I_ x1), (2, I_ x2)] (v.toList ++ []) n' S' g' 0 0 P))) : V miX12_part (d + 1) 15 [(0, .ref 53), (1, I_ x1), (2, I_ x2)] [I_ xs0] n (W0 dy) g 0 0 P := by
  have c1 := h.1
  have h := h.2
  refine v_if_ne 9 rfl (tgt := 24) rfl c1 (fun q2 => ?_) (fun q2 => ?_)
  · have h := h.1 q2
    refine v_iload_n 14 2 rfl rfl rfl ?_
    have c3 := h.1
    have h := h.2
    by_cases q19 : x2 < 0 ∨ 6 < x2
    · have h := h.1 q19
      refine v_tswOut 15 rfl c3 q19 (tgt := 116) rfl ?_
      refine v_aload_n 50 0 rfl rfl rfl ?_
      refine v_bipush 51 rfl (by decide) ?_
      refine v_callV (st := []) [I_ 7] 52 rfl lv12_174_part_11 (al 53 rfl hn) (wk53 dy) (by decide) rfl (Nat.le_refl _) (Nat.le_refl _) ?_
      exact h
    by_cases q19_0 : x2 = 0
    · have h := h.2.1 q19_0
      refine v_tswIn 15 rfl c3 (by omega) (by omega) (off := 43) (tgt := 68) (by rw [q19_0]; rfl) rfl ?_
      refine v_aload_n 16 0 rfl rfl rfl ?_
      refine v_gK 17 rfl fl12_20_11.r (al 53 rfl hn) (wk53 dy) (by decide) rfl (r := 57) (wc53_6 dy) ?_
      refine v_iload_n 18 1 rfl rfl rfl ?_
      have c4 := h.1
      have h := h.2
      refine v_ia (N := 60) 19 rfl (al 57 rfl hn) (wk57 dy) (wn57 dy) (by decide) c4 (y := g 57 x1.toNat) rfl ?_
      refine v_rng fun w5 => ?_
      have p6 : i3 (g 57 x1.toNat) := rI w5 (q := x1.toNat) (al 57 rfl hn) (wk57 dy) rfl rfl
      exact v_ret (v := some (I_ (g 57 x1.toNat))) 20 rfl (Nat.zero_le _) (Nat.zero_le _) trivial rfl h
    by_cases q19_1 : x2 = 1
    · have h := h.2.2.1 q19_1
      refine v_tswIn 15 rfl c3 (by omega) (by omega) (off := 50) (tgt := 75) (by rw [q19_1]; rfl) rfl ?_
      refine v_aload_n 21 0 rfl rfl rfl ?_
      refine v_gK 22 rfl fl12_38_11.r (al 53 rfl hn) (wk53 dy) (by decide) rfl (r := 63) (wc53_12 dy) ?_
      refine v_iload_n 23 1 rfl rfl rfl ?_
      have c7 := h.1
      have h := h.2
      refine v_la (N := 60) 24 rfl (al 63 rfl hn) (wk63 dy) (wn63 dy) (by decide) c7 (y := g 63 x1.toNat) rfl ?_
      refine v_rng fun w8 => ?_
      have p9 : i6 (g 63 x1.toNat) := rL w8 (q := x1.toNat) (al 63 rfl hn) (wk63 dy) rfl rfl
      refine v_l2i 25 rfl ?_
      exact v_ret (v := some (I_ (g 63 x1.toNat))) 26 rfl (Nat.zero_le _) (Nat.zero_le _) trivial rfl h
    by_cases q19_2 : x2 = 2
    · have h := h.2.2.2.1 q19_2
      refine v_tswIn 15 rfl c3 (by omega) (by omega) (off := 58) (tgt := 83) (by rw [q19_2]; rfl) rfl ?_
      refine v_aload_n 27 0 rfl rfl rfl ?_
      refine v_gK 28 rfl fl12_29_11.r (al 53 rfl hn) (wk53 dy) (by decide) rfl (r := 60) (wc53_9 dy) ?_
      refine v_iload_n 29 1 rfl rfl rfl ?_
      have c10 := h.1
      have h := h.2
      refine v_ia (N := 60) 30 rfl (al 60 rfl hn) (wk60 dy) (wn60 dy) (by decide) c10 (y := g 60 x1.toNat) rfl ?_
      refine v_rng fun w11 => ?_
      have p12 : i3 (g 60 x1.toNat) := rI w11 (q := x1.toNat) (al 60 rfl hn) (wk60 dy) rfl rfl
      exact v_ret (v := some (I_ (g 60 x1.toNat))) 31 rfl (Nat.zero_le _) (Nat.zero_le _) trivial rfl h
    by_cases q19_3 : x2 = 3
    · have h := h.2.2.2.2.1 q19_3
      refine v_tswIn 15 rfl c3 (by omega) (by omega) (off := 65) (tgt := 90) (by rw [q19_3]; rfl) rfl ?_
      refine v_aload_n 32 0 rfl rfl rfl ?_
      refine v_gK 33 rfl fl12_32_11.r (al 53 rfl hn) (wk53 dy) (by decide) rfl (r := 61) (wc53_10 dy) ?_
      refine v_iload_n 34 1 rfl rfl rfl ?_
      have c13 := h.1
      have h := h.2
      refine v_ia (N := 60) 35 rfl (al 61 rfl hn) (wk61 dy) (wn61 dy) (by decide) c13 (y := g 61 x1.toNat) rfl ?_
      refine v_rng fun w14 => ?_
      have p15 : i3 (g 61 x1.toNat) := rI w14 (q := x1.toNat) (al 61 rfl hn) (wk61 dy) rfl rfl
      exact v_ret (v := some (I_ (g 61 x1.toNat))) 36 rfl (Nat.zero_le _) (Nat.zero_le _) trivial rfl h
    by_cases q19_4 : x2 = 4
    · have h := h.2.2.2.2.2.1 q19_4
      refine v_tswIn 15 rfl c3 (by omega) (by omega) (off := 72) (tgt := 97) (by rw [q19_4]; rfl) rfl ?_
      refine v_aload_n 37 0 rfl rfl rfl ?_
      refine v_gK 38 rfl fl12_35_11.r (al 53 rfl hn) (wk53 dy) (by decide) rfl (r := 62) (wc53_11 dy) ?_
      refine v_iload_n 39 1 rfl rfl rfl ?_
      have c16 := h.1
      have h := h.2
      refine v_ia (N := 60) 40 rfl (al 62 rfl hn) (wk62 dy) (wn62 dy) (by decide) c16 (y := g 62 x1.toNat) rfl ?_
      refine v_rng fun w17 => ?_
      have p18 : i3 (g 62 x1.toNat) := rI w17 (q := x1.toNat) (al 62 rfl hn) (wk62 dy) rfl rfl
      exact v_ret (v := some (I_ (g 62 x1.toNat))) 41 rfl (Nat.zero_le _) (Nat.zero_le _) trivial rfl h
    by_cases q19_5 : x2 = 5
    · have h := h.2.2.2.2.2.2.1 q19_5
      refine v_tswIn 15 rfl c3 (by omega) (by omega) (off := 79) (tgt := 104) (by rw [q19_5]; rfl) rfl ?_
      refine v_aload_n 42 0 rfl rfl rfl ?_
      refine v_iload_n 43 1 rfl rfl rfl ?_
      refine v_callV (st := []) [I_ x1] 44 rfl lv12_231_part_11 (al 53 rfl hn) (wk53 dy) (by decide) rfl (Nat.le_refl _) (Nat.le_refl _) ?_
      exact h
    by_cases q19_6 : x2 = 6
    · have h := h.2.2.2.2.2.2.2 q19_6
      refine v_tswIn 15 rfl c3 (by omega) (by omega) (off := 85) (tgt := 110) (by rw [q19_6]; rfl) rfl ?_
      refine v_aload_n 46 0 rfl rfl rfl ?_
      refine v_iload_n 47 1 rfl rfl rfl ?_
      refine v_callV (st := []) [I_ x1] 48 rfl lv12_234_part_11 (al 53 rfl hn) (wk53 dy) (by decide) rfl (Nat.le_refl _) (Nat.le_refl _) ?_
      exact h
    exfalso; omega
  · have h := h.2 q2
    refine v_aload_n 10 0 rfl rfl rfl ?_
    refine v_iconst 11 rfl ?_
    refine v_callV (st := []) [I_ 2] 12 rfl lv12_174_part_11 (al 53 rfl hn) (wk53 dy) (by decide) rfl (Nat.le_refl _) (Nat.le_refl _) ?_
    exact h
set_option maxHeartbeats 8000000 in
set_option maxRecDepth 4000 in
theorem bX12_part_23 {d n : Nat} {dy : Nat → Shp} {g : Hp} {P : Pst} {x1 : Int} {x2 : Int} {xs0 : Int} (hn : 100 ≤ n) (h : P (some (I_ xs0)) n (W0 dy) g) : V miX12_part (d + 1) 23 [(0, .ref 53), (1, I_ x1), (2, I_ x2)] [I_ xs0] n (W0 dy) g 0 0 P := by
  exact v_ret (v := some (I_ xs0)) 13 rfl (Nat.zero_le _) (Nat.zero_le _) trivial rfl h
set_option maxHeartbeats 8000000 in
set_option maxRecDepth 4000 in
theorem bX12_part_109 {d n : Nat} {dy : Nat → Shp} {g : Hp} {P : Pst} {x1 : Int} {x2 : Int} {xs0 : Int} (hn : 100 ≤ n) (h : P (some (I_ xs0)) n (W0 dy) g) : V miX12_part (d + 1) 109 [(0, .ref 53), (1, I_ x1), (2, I_ x2)] [I_ xs0] n (W0 dy) g 0 0 P := by
  exact v_ret (v := some (I_ xs0)) 45 rfl (Nat.zero_le _) (Nat.zero_le _) trivial rfl h
set_option maxHeartbeats 8000000 in
set_option maxRecDepth 4000 in
theorem bX12_part_115 {d n : Nat} {dy : Nat → Shp} {g : Hp} {P : Pst} {x1 : Int} {x2 : Int} {xs0 : Int} (hn : 100 ≤ n) (h : P (some (I_ xs0)) n (W0 dy) g) : V miX12_part (d + 1) 115 [(0, .ref 53), (1, I_ x1), (2, I_ x2)] [I_ xs0] n (W0 dy) g 0 0 P := by
  exact v_ret (v := some (I_ xs0)) 49 rfl (Nat.zero_le _) (Nat.zero_le _) trivial rfl h
set_option maxHeartbeats 8000000 in
set_option maxRecDepth 4000 in
theorem bX12_part_122 {d n : Nat} {dy : Nat → Shp} {g : Hp} {P : Pst} {x1 : Int} {x2 : Int} {xs0 : Int} (hn : 100 ≤ n) (h : P (some (I_ xs0)) n (W0 dy) g) : V miX12_part (d + 1) 122 [(0, .ref 53), (1, I_ x1), (2, I_ x2)] [I_ xs0] n (W0 dy) g 0 0 P := by
  exact v_ret (v := some (I_ xs0)) 53 rfl (Nat.zero_le _) (Nat.zero_le _) trivial rfl h
theorem wX12_part {d n : Nat} {dy : Nat → Shp} {g : Hp} {P : Pst} {x1 : Int} {x2 : Int} (hn : 100 ≤ n) (h : Runs miX12_isPart d [.ref 53, I_ x1] n (W0 dy) (up2 (up2 g 53 1 0) 53 0 0) (fun v n' S' g' => V miX12_part (d + 1) 15 [(0, .ref 53), (1, I_ x1), (2, I_ x2)] (v.toList ++ []) n' S' g' 0 0 P)) : Runs miX12_part (d + 1) [.ref 53, I_ x1, I_ x2] n (W0 dy) g P := Runs.of rfl rfl deX12_part (Nat.le_of_ble_eq_true rfl) (bX12_part_0 hn h)
theorem lv12_222_rodded_11 : LkV miX12_rodded miX12_isPart 222 1 11 := ⟨⟨⟨tbG_in (List.mem_append_right _ (List.mem_of_getElem? (i := 1400) (by decide +kernel))) rfl, tbG_in (List.mem_append_right _ (List.mem_of_getElem? (i := 9) (by decide +kernel))) rfl, tbG_in (List.mem_append_right _ (List.mem_of_getElem? (i := 1397) (by decide +kernel))) rfl⟩, ⟨by decide +kernel, by decide +kernel, by decide +kernel⟩, by decide⟩, tbG_in (List.mem_append_right _ (List.mem_of_getElem? (i := 1399) (by decide +kernel))) rfl, RX12, TX12, 58, rfl, tbG_in (List.mem_append_left _ (List.mem_of_getElem? (i := 56) (by decide +kernel))) rfl⟩
theorem lv12_237_rodded_11 : LkV miX12_rodded miX12_isRod 237 1 11 := ⟨⟨⟨tbG_in (List.mem_append_right _ (List.mem_of_getElem? (i := 1428) (by decide +kernel))) rfl, tbG_in (List.mem_append_right _ (List.mem_of_getElem? (i := 9) (by decide +kernel))) rfl, tbG_in (List.mem_append_right _ (List.mem_of_getElem? (i := 1425) (by decide +kernel))) rfl⟩, ⟨by decide +kernel, by decide +kernel, by decide +kernel⟩, by decide⟩, tbG_in (List.mem_append_right _ (List.mem_of_getElem? (i := 1427) (by decide +kernel))) rfl, RX12, TX12, 58, rfl, tbG_in (List.mem_append_left _ (List.mem_of_getElem? (i := 60) (by decide +kernel))) rfl⟩
set_option maxHeartbeats 8000000 in
set_option maxRecDepth 4000 in
theorem bX12_rodded_0 {d n : Nat} {dy : Nat → Shp} {g : Hp} {P : Pst} {x1 : Int} (hn : 100 ≤ n) (h : Runs miX12_isPart d [.ref 53, I_ x1] n (W0 dy) g (fun v n' S' g' => V miX12_rodded (d + 1) 5 [(0, .ref 53), (1, I_ x1)] (v.toList ++ []) n' S' g' 0 0 P)) : V miX12_rodded (d + 1) 0 [(0, .ref 53), (1, I_ x1)] [] n (W0 dy) g 0 0 P := by
  refine v_aload_n 0 0 rfl rfl rfl ?_
  refine v_iload_n 1 1 rfl rfl rfl ?_
  refine v_callV (st := []) [I_ x1] 2 rfl lv12_222_rodded_11 (al 53 rfl hn) (wk53 dy) (by decide) rfl (Nat.le_refl _) (Nat.le_refl _) ?_
  exact h
set_option maxHeartbeats 8000000 in
set_option maxRecDepth 4000 in
theorem bX12_rodded_5 {d n : Nat} {dy : Nat → Shp} {g : Hp} {P : Pst} {x1 : Int} {xs0 : Int} (hn : 100 ≤ n) (h : (i3 xs0) ∧ ((xs0 ≠ 0) → Runs miX12_isRod d [.ref 53, I_ x1] n (W0 dy) g (fun v n' S' g' => V miX12_rodded (d + 1) 17 [(0, .ref 53), (1, I_ x1)] (v.toList ++ []) n' S' g' 0 0 P)) ∧ ((xs0 = 0) → P (some (I_ 2)) n (W0 dy) g)) : V miX12_rodded (d + 1) 5 [(0, .ref 53), (1, I_ x1)] [I_ xs0] n (W0 dy) g 0 0 P := by
  have c1 := h.1
  have h := h.2
  refine v_if_ne 3 rfl (tgt := 12) rfl c1 (fun q2 => ?_) (fun q2 => ?_)
  · have h := h.1 q2
    refine v_aload_n 6 0 rfl rfl rfl ?_
    refine v_iload_n 7 1 rfl rfl rfl ?_
    refine v_callV (st := []) [I_ x1] 8 rfl lv12_237_rodded_11 (al 53 rfl hn) (wk53 dy) (by decide) rfl (Nat.le_refl _) (Nat.le_refl _) ?_
    exact h
  · have h := h.2 q2
    refine v_iconst 4 rfl ?_
    refine v_goto 5 rfl (tgt := 25) rfl ?_
    exact v_ret (v := some (I_ 2)) 13 rfl (Nat.zero_le _) (Nat.zero_le _) trivial rfl h
set_option maxHeartbeats 8000000 in
set_option maxRecDepth 4000 in
theorem bX12_rodded_17 {d n : Nat} {dy : Nat → Shp} {g : Hp} {P : Pst} {x1 : Int} {xs0 : Int} (hn : 100 ≤ n) (h : (i3 xs0) ∧ ((xs0 = 0) → P (some (I_ 5)) n (W0 dy) g) ∧ ((xs0 ≠ 0) → P (some (I_ 0)) n (W0 dy) g)) : V miX12_rodded (d + 1) 17 [(0, .ref 53), (1, I_ x1)] [I_ xs0] n (W0 dy) g 0 0 P := by
  have c1 := h.1
  have h := h.2
  refine v_if_eq 9 rfl (tgt := 24) rfl c1 (fun q2 => ?_) (fun q2 => ?_)
  · have h := h.1 q2
    refine v_iconst 12 rfl ?_
    exact v_ret (v := some (I_ 5)) 13 rfl (Nat.zero_le _) (Nat.zero_le _) trivial rfl h
  · have h := h.2 q2
    refine v_iconst 10 rfl ?_
    refine v_goto 11 rfl (tgt := 25) rfl ?_
    exact v_ret (v := some (I_ 0)) 13 rfl (Nat.zero_le _) (Nat.zero_le _) trivial rfl h
theorem wX12_rodded {d n : Nat} {dy : Nat → Shp} {g : Hp} {P : Pst} {x1 : Int} (hn : 100 ≤ n) (h : Runs miX12_isPart d [.ref 53, I_ x1] n (W0 dy) g (fun v n' S' g' => V miX12_rodded (d + 1) 5 [(0, .ref 53), (1, I_ x1)] (v.toList ++ []) n' S' g' 0 0 P)) : Runs miX12_rodded (d + 1) [.ref 53, I_ x1] n (W0 dy) g P := Runs.of rfl rfl deX12_rodded (Nat.le_of_ble_eq_true rfl) (bX12_rodded_0 hn h)
theorem lv12_240_rodAt_11 : LkV miX12_rodAt miX12_rodded 240 1 11 := ⟨⟨⟨tbG_in (List.mem_append_right _ (List.mem_of_getElem? (i := 1424) (by decide +kernel))) rfl, tbG_in (List.mem_append_right _ (List.mem_of_getElem? (i := 9) (by decide +kernel))) rfl, tbG_in (List.mem_append_right _ (List.mem_of_getElem? (i := 1421) (by decide +kernel))) rfl⟩, ⟨by decide +kernel, by decide +kernel, by decide +kernel⟩, by decide⟩, tbG_in (List.mem_append_right _ (List.mem_of_getElem? (i := 1423) (by decide +kernel))) rfl, RX12, TX12, 58, rfl, tbG_in (List.mem_append_left _ (List.mem_of_getElem? (i := 59) (by decide +kernel))) rfl⟩
theorem lv12_174_rodAt_11 : LkV miX12_rodAt miX12_refuse 174 1 11 := ⟨⟨⟨tbG_in (List.mem_append_right _ (List.mem_of_getElem? (i := 1351) (by decide +kernel))) rfl, tbG_in (List.mem_append_right _ (List.mem_of_getElem? (i := 9) (by decide +kernel))) rfl, tbG_in (List.mem_append_right _ (List.mem_of_getElem? (i := 1348) (by decide +kernel))) rfl⟩, ⟨by decide +kernel, by decide +kernel, by decide +kernel⟩, by decide⟩, tbG_in (List.mem_append_right _ (List.mem_of_getElem? (i := 1350) (by decide +kernel))) rfl, RX12, TX12, 58, rfl, tbG_in (List.mem_append_left _ (List.mem_of_getElem? (i := 50) (by decide +kernel))) rfl⟩
set_option maxHeartbeats 8000000 in
set_option maxRecDepth 4000 in
theorem bX12_rodAt_0 {d n : Nat} {dy : Nat → Shp} {g : Hp} {P : Pst} {x1 : Int} {x2 : Int} (hn : 100 ≤ n) (h : Runs miX12_rodded d [.ref 53, I_ x1] n (W0 dy) (up2 g 53 1 0) (fun v n' S' g' => V miX12_rodAt (d + 1) 11 [(0, .ref 53), (1, I_ x1), (2, I_ x2)] (v.toList ++ [.ref 53]) n' S' g' 0 0 P)) : V miX12_rodAt (d + 1) 0 [(0, .ref 53), (1, I_ x1), (2, I_ x2)] [] n (W0 dy) g 0 0 P := by
  refine v_aload_n 0 0 rfl rfl rfl ?_
  refine v_iconst 1 rfl ?_
  refine v_putI 2 rfl fl12_148_11 (al 53 rfl hn) (wk53 dy) (by decide) rfl (wc53_1 dy) (by decide) ?_
  refine v_aload_n 3 0 rfl rfl rfl ?_
  refine v_aload_n 4 0 rfl rfl rfl ?_
  refine v_iload_n 5 1 rfl rfl rfl ?_
  refine v_callV (st := [.ref 53]) [I_ x1] 6 rfl lv12_240_rodAt_11 (al 53 rfl hn) (wk53 dy) (by decide) rfl (Nat.le_refl _) (Nat.le_refl _) ?_
  exact h
set_option maxHeartbeats 8000000 in
set_option maxRecDepth 4000 in
theorem bX12_rodAt_11 {d n : Nat} {dy : Nat → Shp} {g : Hp} {P : Pst} {x1 : Int} {x2 : Int} {xs1 : Int} (hn : 100 ≤ n) (h : (i3 xs1) ∧ ((xs1 ≤ 0) → (i3 x2) ∧ ((x2 < 0 ∨ 5 < x2) → Runs miX12_refuse d [.ref 53, I_ 7] n (W0 dy) (up2 g 53 0 xs1) (fun v n' S' g' => V miX12_rodAt (d + 1) 116 [(0, .ref 53), (1, I_ x1), (2, I_ x2)] (v.toList ++ []) n' S' g' 0 0 P)) ∧ (x2 = 0 → (0 ≤ x1 ∧ x1 < 60) ∧ P (some (L_ (g 59 x1.toNat))) n (W0 dy) (up2 g 53 0 xs1)) ∧ (x2 = 1 → (0 ≤ x1 ∧ x1 < 60) ∧ P (some (L_ (g 58 x1.toNat))) n (W0 dy) (up2 g 53 0 xs1)) ∧ (x2 = 2 → (0 ≤ x1 ∧ x1 < 60) ∧ P (some (L_ (g 64 x1.toNat))) n (W0 dy) (up2 g 53 0 xs1)) ∧ (x2 = 3 → (0 ≤ x1 ∧ x1 < 60) ∧ P (some (L_ (g 65 x1.toNat))) n (W0 dy) (up2 g 53 0 xs1)) ∧ (x2 = 4 → (0 ≤ x1 ∧ x1 < 60) ∧ P (some (L_ (g 66 x1.toNat))) n (W0 dy) (up2 g 53 0 xs1)) ∧ (x2 = 5 → (0 ≤ x1 ∧ x1 < 60) ∧ P (some (L_ (g 67 x1.toNat))) n (W0 dy) (up2 g 53 0 xs1))) ∧ ((0 < xs1) → P (some (L_ ((-1)))) n (W0 dy) (up2 g 53 0 xs1))) : V miX12_rodAt (d + 1) 11 [(0, .ref 53), (1, I_ x1), (2, I_ x2)] [I_ xs1, .ref 53] n (W0 dy) g 0 0 P := by
  have c1 := h.1
  have h := h.2
  refine v_putI 7 rfl fl12_152_11 (al 53 rfl hn) (wk53 dy) (by decide) rfl (wc53_0 dy) c1 ?_
  refine v_aload_n 8 0 rfl rfl rfl ?_
  refine v_gI 9 rfl fl12_152_11.r (al 53 rfl hn) (wk53 dy) (by decide) rfl (wc53_0 dy) (x := xs1) rfl ?_
  refine v_rng fun w2 => ?_
  have p3 : i3 (xs1) := rI w2 (q := 0) (al 53 rfl hn) (wk53 dy) rfl rfl
  refine v_if_le 10 rfl (tgt := 25) rfl p3 (fun q4 => ?_) (fun q4 => ?_)
  · have h := h.1 q4
    refine v_iload_n 13 2 rfl rfl rfl ?_
    have c5 := h.1
    have h := h.2
    by_cases q24 : x2 < 0 ∨ 5 < x2
    · have h := h.1 q24
      refine v_tswOut 14 rfl c5 q24 (tgt := 110) rfl ?_
      refine v_aload_n 49 0 rfl rfl rfl ?_
      refine v_bipush 50 rfl (by decide) ?_
      refine v_callV (st := []) [I_ 7] 51 rfl lv12_174_rodAt_11 (al 53 rfl hn) (wk53 dy) (by decide) rfl (Nat.le_refl _) (Nat.le_refl _) ?_
      exact h
    by_cases q24_0 : x2 = 0
    · have h := h.2.1 q24_0
      refine v_tswIn 14 rfl c5 (by omega) (by omega) (off := 38) (tgt := 64) (by rw [q24_0]; rfl) rfl ?_
      refine v_aload_n 15 0 rfl rfl rfl ?_
      refine v_gK 16 rfl fl12_26_11.r (al 53 rfl hn) (wk53 dy) (by decide) rfl (r := 59) (wc53_8 dy) ?_
      refine v_iload_n 17 1 rfl rfl rfl ?_
      have c6 := h.1
      have h := h.2
      refine v_ia (N := 60) 18 rfl (al 59 rfl hn) (wk59 dy) (wn59 dy) (by decide) c6 (y := g 59 x1.toNat) rfl ?_
      refine v_rng fun w7 => ?_
      have p8 : i3 (g 59 x1.toNat) := rI w7 (q := x1.toNat) (al 59 rfl hn) (wk59 dy) rfl rfl
      refine v_i2l 19 rfl p8 ?_
      exact v_ret (v := some (L_ (g 59 x1.toNat))) 20 rfl (Nat.zero_le _) (Nat.zero_le _) trivial rfl h
    by_cases q24_1 : x2 = 1
    · have h := h.2.2.1 q24_1
      refine v_tswIn 14 rfl c5 (by omega) (by omega) (off := 46) (tgt := 72) (by rw [q24_1]; rfl) rfl ?_
      refine v_aload_n 21 0 rfl rfl rfl ?_
      refine v_gK 22 rfl fl12_23_11.r (al 53 rfl hn) (wk53 dy) (by decide) rfl (r := 58) (wc53_7 dy) ?_
      refine v_iload_n 23 1 rfl rfl rfl ?_
      have c9 := h.1
      have h := h.2
      refine v_ia (N := 60) 24 rfl (al 58 rfl hn) (wk58 dy) (wn58 dy) (by decide) c9 (y := g 58 x1.toNat) rfl ?_
      refine v_rng fun w10 => ?_
      have p11 : i3 (g 58 x1.toNat) := rI w10 (q := x1.toNat) (al 58 rfl hn) (wk58 dy) rfl rfl
      refine v_i2l 25 rfl p11 ?_
      exact v_ret (v := some (L_ (g 58 x1.toNat))) 26 rfl (Nat.zero_le _) (Nat.zero_le _) trivial rfl h
    by_cases q24_2 : x2 = 2
    · have h := h.2.2.2.1 q24_2
      refine v_tswIn 14 rfl c5 (by omega) (by omega) (off := 54) (tgt := 80) (by rw [q24_2]; rfl) rfl ?_
      refine v_aload_n 27 0 rfl rfl rfl ?_
      refine v_gK 28 rfl fl12_41_11.r (al 53 rfl hn) (wk53 dy) (by decide) rfl (r := 64) (wc53_13 dy) ?_
      refine v_iload_n 29 1 rfl rfl rfl ?_
      have c12 := h.1
      have h := h.2
      refine v_la (N := 60) 30 rfl (al 64 rfl hn) (wk64 dy) (wn64 dy) (by decide) c12 (y := g 64 x1.toNat) rfl ?_
      refine v_rng fun w13 => ?_
      have p14 : i6 (g 64 x1.toNat) := rL w13 (q := x1.toNat) (al 64 rfl hn) (wk64 dy) rfl rfl
      exact v_ret (v := some (L_ (g 64 x1.toNat))) 31 rfl (Nat.zero_le _) (Nat.zero_le _) trivial rfl h
    by_cases q24_3 : x2 = 3
    · have h := h.2.2.2.2.1 q24_3
      refine v_tswIn 14 rfl c5 (by omega) (by omega) (off := 61) (tgt := 87) (by rw [q24_3]; rfl) rfl ?_
      refine v_aload_n 32 0 rfl rfl rfl ?_
      refine v_gK 33 rfl fl12_44_11.r (al 53 rfl hn) (wk53 dy) (by decide) rfl (r := 65) (wc53_14 dy) ?_
      refine v_iload_n 34 1 rfl rfl rfl ?_
      have c15 := h.1
      have h := h.2
      refine v_la (N := 60) 35 rfl (al 65 rfl hn) (wk65 dy) (wn65 dy) (by decide) c15 (y := g 65 x1.toNat) rfl ?_
      refine v_rng fun w16 => ?_
      have p17 : i6 (g 65 x1.toNat) := rL w16 (q := x1.toNat) (al 65 rfl hn) (wk65 dy) rfl rfl
      exact v_ret (v := some (L_ (g 65 x1.toNat))) 36 rfl (Nat.zero_le _) (Nat.zero_le _) trivial rfl h
    by_cases q24_4 : x2 = 4
    · have h := h.2.2.2.2.2.1 q24_4
      refine v_tswIn 14 rfl c5 (by omega) (by omega) (off := 68) (tgt := 94) (by rw [q24_4]; rfl) rfl ?_
      refine v_aload_n 37 0 rfl rfl rfl ?_
      refine v_gK 38 rfl fl12_47_11.r (al 53 rfl hn) (wk53 dy) (by decide) rfl (r := 66) (wc53_15 dy) ?_
      refine v_iload_n 39 1 rfl rfl rfl ?_
      have c18 := h.1
      have h := h.2
      refine v_ia (N := 60) 40 rfl (al 66 rfl hn) (wk66 dy) (wn66 dy) (by decide) c18 (y := g 66 x1.toNat) rfl ?_
      refine v_rng fun w19 => ?_
      have p20 : i3 (g 66 x1.toNat) := rI w19 (q := x1.toNat) (al 66 rfl hn) (wk66 dy) rfl rfl
      refine v_i2l 41 rfl p20 ?_
      exact v_ret (v := some (L_ (g 66 x1.toNat))) 42 rfl (Nat.zero_le _) (Nat.zero_le _) trivial rfl h
    by_cases q24_5 : x2 = 5
    · have h := h.2.2.2.2.2.2 q24_5
      refine v_tswIn 14 rfl c5 (by omega) (by omega) (off := 76) (tgt := 102) (by rw [q24_5]; rfl) rfl ?_
      refine v_aload_n 43 0 rfl rfl rfl ?_
      refine v_gK 44 rfl fl12_50_11.r (al 53 rfl hn) (wk53 dy) (by decide) rfl (r := 67) (wc53_16 dy) ?_
      refine v_iload_n 45 1 rfl rfl rfl ?_
      have c21 := h.1
      have h := h.2
      refine v_ia (N := 60) 46 rfl (al 67 rfl hn) (wk67 dy) (wn67 dy) (by decide) c21 (y := g 67 x1.toNat) rfl ?_
      refine v_rng fun w22 => ?_
      have p23 : i3 (g 67 x1.toNat) := rI w22 (q := x1.toNat) (al 67 rfl hn) (wk67 dy) rfl rfl
      refine v_i2l 47 rfl p23 ?_
      exact v_ret (v := some (L_ (g 67 x1.toNat))) 48 rfl (Nat.zero_le _) (Nat.zero_le _) trivial rfl h
    exfalso; omega
  · have h := h.2 q4
    refine v_ldc2 (v := (-1)) 11 rfl (tbG_in (List.mem_append_right _ (List.mem_of_getElem? (i := 1334) (by decide +kernel))) rfl) ?_
    exact v_ret (v := some (L_ ((-1)))) 12 rfl (Nat.zero_le _) (Nat.zero_le _) trivial rfl h
set_option maxHeartbeats 8000000 in
set_option maxRecDepth 4000 in
theorem bX12_rodAt_116 {d n : Nat} {dy : Nat → Shp} {g : Hp} {P : Pst} {x1 : Int} {x2 : Int} {xs0 : Int} (hn : 100 ≤ n) (h : (i3 xs0) ∧ P (some (L_ xs0)) n (W0 dy) g) : V miX12_rodAt (d + 1) 116 [(0, .ref 53), (1, I_ x1), (2, I_ x2)] [I_ xs0] n (W0 dy) g 0 0 P := by
  have c1 := h.1
  have h := h.2
  refine v_i2l 52 rfl c1 ?_
  exact v_ret (v := some (L_ xs0)) 53 rfl (Nat.zero_le _) (Nat.zero_le _) trivial rfl h
theorem wX12_rodAt {d n : Nat} {dy : Nat → Shp} {g : Hp} {P : Pst} {x1 : Int} {x2 : Int} (hn : 100 ≤ n) (h : Runs miX12_rodded d [.ref 53, I_ x1] n (W0 dy) (up2 g 53 1 0) (fun v n' S' g' => V miX12_rodAt (d + 1) 11 [(0, .ref 53), (1, I_ x1), (2, I_ x2)] (v.toList ++ [.ref 53]) n' S' g' 0 0 P)) : Runs miX12_rodAt (d + 1) [.ref 53, I_ x1, I_ x2] n (W0 dy) g P := Runs.of rfl rfl deX12_rodAt (Nat.le_of_ble_eq_true rfl) (bX12_rodAt_0 hn h)
set_option maxHeartbeats 8000000 in
set_option maxRecDepth 4000 in
theorem bX12_isAbove_0 {d n : Nat} {dy : Nat → Shp} {g : Hp} {P : Pst} {x1 : Int} {x2 : Int} (hn : 100 ≤ n) (h : V miX12_isAbove d 2 [(0, .ref 53), (1, I_ x1), (2, I_ x2), (3, I_ x2)] [] n (W0 dy) g 0 0 P) : V miX12_isAbove d 0 [(0, .ref 53), (1, I_ x1), (2, I_ x2)] [] n (W0 dy) g 0 0 P := by
  refine v_iload_n 0 2 rfl rfl rfl ?_
  refine v_istore_n 1 [1, 2, 3, 0] rfl rfl (by decide) rfl ?_
  exact h
set_option maxHeartbeats 8000000 in
set_option maxRecDepth 4000 in
theorem bX12_isAbove_2 {d n : Nat} {dy : Nat → Shp} {g : Hp} {P : Pst} {x1 : Int} {x2 : Int} {x3 : Int} (hn : 100 ≤ n) (h : (i3 x3) ∧ ((x3 < 0) → (i3 x1) ∧ ((x3 ≠ x1) → P (some (I_ 0)) n (W0 dy) g) ∧ ((x3 = x1) → P (some (I_ 1)) n (W0 dy) g)) ∧ ((0 ≤ x3) → (i3 x1) ∧ ((x3 = x1) → ((x3 ≠ x1) → P (some (I_ 0)) n (W0 dy) g) ∧ ((x3 = x1) → P (some (I_ 1)) n (W0 dy) g)) ∧ ((x3 ≠ x1) → (0 ≤ x3 ∧ x3 < 60) ∧ V miX12_isAbove d 2 [(0, .ref 53), (1, I_ x1), (2, I_ x2), (3, I_ (g 60 x3.toNat))] [] n (W0 dy) g 0 0 P))) : V miX12_isAbove d 2 [(0, .ref 53), (1, I_ x1), (2, I_ x2), (3, I_ x3)] [] n (W0 dy) g 0 0 P := by
  refine v_iload_n 2 3 rfl rfl rfl ?_
  have c1 := h.1
  have h := h.2
  refine v_if_lt 3 rfl (tgt := 21) rfl c1 (fun q2 => ?_) (fun q2 => ?_)
  · have h := h.1 q2
    refine v_iload_n 13 3 rfl rfl rfl ?_
    refine v_iload_n 14 1 rfl rfl rfl ?_
    have c3 := h.1
    have h := h.2
    refine v_icmp_ne 15 rfl (tgt := 30) rfl c1 c3 (fun q4 => ?_) (fun q4 => ?_)
    · have h := h.1 q4
      refine v_iconst 18 rfl ?_
      exact v_ret (v := some (I_ 0)) 19 rfl (Nat.zero_le _) (Nat.zero_le _) (Or.inl rfl) rfl h
    · have h := h.2 q4
      refine v_iconst 16 rfl ?_
      refine v_goto 17 rfl (tgt := 31) rfl ?_
      exact v_ret (v := some (I_ 1)) 19 rfl (Nat.zero_le _) (Nat.zero_le _) (Or.inr rfl) rfl h
  · have h := h.2 q2
    refine v_iload_n 4 3 rfl rfl rfl ?_
    refine v_iload_n 5 1 rfl rfl rfl ?_
    have c5 := h.1
    have h := h.2
    refine v_icmp_eq 6 rfl (tgt := 21) rfl c1 c5 (fun q6 => ?_) (fun q6 => ?_)
    · have h := h.1 q6
      refine v_iload_n 13 3 rfl rfl rfl ?_
      refine v_iload_n 14 1 rfl rfl rfl ?_
      refine v_icmp_ne 15 rfl (tgt := 30) rfl c1 c5 (fun q7 => ?_) (fun q7 => ?_)
      · have h := h.1 q7
        refine v_iconst 18 rfl ?_
        exact v_ret (v := some (I_ 0)) 19 rfl (Nat.zero_le _) (Nat.zero_le _) (Or.inl rfl) rfl h
      · have h := h.2 q7
        refine v_iconst 16 rfl ?_
        refine v_goto 17 rfl (tgt := 31) rfl ?_
        exact v_ret (v := some (I_ 1)) 19 rfl (Nat.zero_le _) (Nat.zero_le _) (Or.inr rfl) rfl h
    · have h := h.2 q6
      refine v_aload_n 7 0 rfl rfl rfl ?_
      refine v_gK 8 rfl fl12_29_11.r (al 53 rfl hn) (wk53 dy) (by decide) rfl (r := 60) (wc53_9 dy) ?_
      refine v_iload_n 9 3 rfl rfl rfl ?_
      have c8 := h.1
      have h := h.2
      refine v_ia (N := 60) 10 rfl (al 60 rfl hn) (wk60 dy) (wn60 dy) (by decide) c8 (y := g 60 x3.toNat) rfl ?_
      refine v_rng fun w9 => ?_
      have p10 : i3 (g 60 x3.toNat) := rI w9 (q := x3.toNat) (al 60 rfl hn) (wk60 dy) rfl rfl
      refine v_istore_n 11 [1, 2, 3, 0] rfl rfl (by decide) rfl ?_
      refine v_goto 12 rfl (tgt := 2) rfl ?_
      exact h
theorem wX12_isAbove {d n : Nat} {dy : Nat → Shp} {g : Hp} {P : Pst} {x1 : Int} {x2 : Int} (hn : 100 ≤ n) (h : V miX12_isAbove d 2 [(0, .ref 53), (1, I_ x1), (2, I_ x2), (3, I_ x2)] [] n (W0 dy) g 0 0 P) : Runs miX12_isAbove d [.ref 53, I_ x1, I_ x2] n (W0 dy) g P := Runs.of rfl rfl deX12_isAbove (Nat.le_of_ble_eq_true rfl) (bX12_isAbove_0 hn h)
theorem lv12_222_hang_11 : LkV miX12_hang miX12_isPart 222 1 11 := ⟨⟨⟨tbG_in (List.mem_append_right _ (List.mem_of_getElem? (i := 1400) (by decide +kernel))) rfl, tbG_in (List.mem_append_right _ (List.mem_of_getElem? (i := 9) (by decide +kernel))) rfl, tbG_in (List.mem_append_right _ (List.mem_of_getElem? (i := 1397) (by decide +kernel))) rfl⟩, ⟨by decide +kernel, by decide +kernel, by decide +kernel⟩, by decide⟩, tbG_in (List.mem_append_right _ (List.mem_of_getElem? (i := 1399) (by decide +kernel))) rfl, RX12, TX12, 58, rfl, tbG_in (List.mem_append_left _ (List.mem_of_getElem? (i := 56) (by decide +kernel))) rfl⟩
theorem lv12_155_hang_11 : LkV miX12_hang miX12_no 155 1 11 := ⟨⟨⟨tbG_in (List.mem_append_right _ (List.mem_of_getElem? (i := 1318) (by decide +kernel))) rfl, tbG_in (List.mem_append_right _ (List.mem_of_getElem? (i := 9) (by decide +kernel))) rfl, tbG_in (List.mem_append_right _ (List.mem_of_getElem? (i := 1315) (by decide +kernel))) rfl⟩, ⟨by decide +kernel, by decide +kernel, by decide +kernel⟩, by decide⟩, tbG_in (List.mem_append_right _ (List.mem_of_getElem? (i := 1317) (by decide +kernel))) rfl, RX12, TX12, 58, rfl, tbG_in (List.mem_append_left _ (List.mem_of_getElem? (i := 47) (by decide +kernel))) rfl⟩
theorem lv12_237_hang_11 : LkV miX12_hang miX12_isRod 237 1 11 := ⟨⟨⟨tbG_in (List.mem_append_right _ (List.mem_of_getElem? (i := 1428) (by decide +kernel))) rfl, tbG_in (List.mem_append_right _ (List.mem_of_getElem? (i := 9) (by decide +kernel))) rfl, tbG_in (List.mem_append_right _ (List.mem_of_getElem? (i := 1425) (by decide +kernel))) rfl⟩, ⟨by decide +kernel, by decide +kernel, by decide +kernel⟩, by decide⟩, tbG_in (List.mem_append_right _ (List.mem_of_getElem? (i := 1427) (by decide +kernel))) rfl, RX12, TX12, 58, rfl, tbG_in (List.mem_append_left _ (List.mem_of_getElem? (i := 60) (by decide +kernel))) rfl⟩
theorem lv12_243_hang_11 : LkV miX12_hang miX12_isAbove 243 2 11 := ⟨⟨⟨tbG_in (List.mem_append_right _ (List.mem_of_getElem? (i := 1436) (by decide +kernel))) rfl, tbG_in (List.mem_append_right _ (List.mem_of_getElem? (i := 9) (by decide +kernel))) rfl, tbG_in (List.mem_append_right _ (List.mem_of_getElem? (i := 1433) (by decide +kernel))) rfl⟩, ⟨by decide +kernel, by decide +kernel, by decide +kernel⟩, by decide⟩, tbG_in (List.mem_append_right _ (List.mem_of_getElem? (i := 1435) (by decide +kernel))) rfl, RX12, TX12, 58, rfl, tbG_in (List.mem_append_left _ (List.mem_of_getElem? (i := 61) (by decide +kernel))) rfl⟩
set_option maxHeartbeats 8000000 in
set_option maxRecDepth 4000 in
theorem bX12_hang_0 {d n : Nat} {dy : Nat → Shp} {g : Hp} {P : Pst} {x1 : Int} {x2 : Int} {x3 : Int} {x4 : Int} (hn : 100 ≤ n) (h : Runs miX12_isPart d [.ref 53, I_ x1] n (W0 dy) (up2 (up2 g 53 1 0) 53 0 0) (fun v n' S' g' => V miX12_hang (d + 1) 15 [(0, .ref 53), (1, I_ x1), (2, I_ x2), (3, I_ x3), (4, I_ x4)] (v.toList ++ []) n' S' g' 0 0 P)) : V miX12_hang (d + 1) 0 [(0, .ref 53), (1, I_ x1), (2, I_ x2), (3, I_ x3), (4, I_ x4)] [] n (W0 dy) g 0 0 P := by
  refine v_aload_n 0 0 rfl rfl rfl ?_
  refine v_iconst 1 rfl ?_
  refine v_putI 2 rfl fl12_148_11 (al 53 rfl hn) (wk53 dy) (by decide) rfl (wc53_1 dy) (by decide) ?_
  refine v_aload_n 3 0 rfl rfl rfl ?_
  refine v_iconst 4 rfl ?_
  refine v_putI 5 rfl fl12_152_11 (al 53 rfl hn) (wk53 dy) (by decide) rfl (wc53_0 dy) (by decide) ?_
  refine v_aload_n 6 0 rfl rfl rfl ?_
  refine v_iload_n 7 1 rfl rfl rfl ?_
  refine v_callV (st := []) [I_ x1] 8 rfl lv12_222_hang_11 (al 53 rfl hn) (wk53 dy) (by decide) rfl (Nat.le_refl _) (Nat.le_refl _) ?_
  exact h
set_option maxHeartbeats 8000000 in
set_option maxRecDepth 4000 in
theorem bX12_hang_15 {d n : Nat} {dy : Nat → Shp} {g : Hp} {P : Pst} {x1 : Int} {x2 : Int} {x3 : Int} {x4 : Int} {xs0 : Int} (hn : 100 ≤ n) (h : (i3 xs0) ∧ ((xs0 = 0) → Runs miX12_no d [.ref 53, I_ 2] n (W0 dy) g (fun v n' S' g' => V miX12_hang (d + 1) 31 [(0, .ref 53), (1, I_ x1), (2, I_ x2), (3, I_ x3), (4, I_ x4)] (v.toList ++ []) n' S' g' 0 0 P)) ∧ ((xs0 ≠ 0) → Runs miX12_isPart d [.ref 53, I_ x2] n (W0 dy) g (fun v n' S' g' => V miX12_hang (d + 1) 23 [(0, .ref 53), (1, I_ x1), (2, I_ x2), (3, I_ x3), (4, I_ x4)] (v.toList ++ []) n' S' g' 0 0 P))) : V miX12_hang (d + 1) 15 [(0, .ref 53), (1, I_ x1), (2, I_ x2), (3, I_ x3), (4, I_ x4)] [I_ xs0] n (W0 dy) g 0 0 P := by
  have c1 := h.1
  have h := h.2
  refine v_if_eq 9 rfl (tgt := 26) rfl c1 (fun q2 => ?_) (fun q2 => ?_)
  · have h := h.1 q2
    refine v_aload_n 14 0 rfl rfl rfl ?_
    refine v_iconst 15 rfl ?_
    refine v_callV (st := []) [I_ 2] 16 rfl lv12_155_hang_11 (al 53 rfl hn) (wk53 dy) (by decide) rfl (Nat.le_refl _) (Nat.le_refl _) ?_
    exact h
  · have h := h.2 q2
    refine v_aload_n 10 0 rfl rfl rfl ?_
    refine v_iload_n 11 2 rfl rfl rfl ?_
    refine v_callV (st := []) [I_ x2] 12 rfl lv12_222_hang_11 (al 53 rfl hn) (wk53 dy) (by decide) rfl (Nat.le_refl _) (Nat.le_refl _) ?_
    exact h
set_option maxHeartbeats 8000000 in
set_option maxRecDepth 4000 in
theorem bX12_hang_23 {d n : Nat} {dy : Nat → Shp} {g : Hp} {P : Pst} {x1 : Int} {x2 : Int} {x3 : Int} {x4 : Int} {xs0 : Int} (hn : 100 ≤ n) (h : (i3 xs0) ∧ ((xs0 ≠ 0) → Runs miX12_isRod d [.ref 53, I_ x2] n (W0 dy) g (fun v n' S' g' => V miX12_hang (d + 1) 37 [(0, .ref 53), (1, I_ x1), (2, I_ x2), (3, I_ x3), (4, I_ x4)] (v.toList ++ []) n' S' g' 0 0 P)) ∧ ((xs0 = 0) → Runs miX12_no d [.ref 53, I_ 2] n (W0 dy) g (fun v n' S' g' => V miX12_hang (d + 1) 31 [(0, .ref 53), (1, I_ x1), (2, I_ x2), (3, I_ x3), (4, I_ x4)] (v.toList ++ []) n' S' g' 0 0 P))) : V miX12_hang (d + 1) 23 [(0, .ref 53), (1, I_ x1), (2, I_ x2), (3, I_ x3), (4, I_ x4)] [I_ xs0] n (W0 dy) g 0 0 P := by
  have c1 := h.1
  have h := h.2
  refine v_if_ne 13 rfl (tgt := 32) rfl c1 (fun q2 => ?_) (fun q2 => ?_)
  · have h := h.1 q2
    refine v_aload_n 18 0 rfl rfl rfl ?_
    refine v_iload_n 19 2 rfl rfl rfl ?_
    refine v_callV (st := []) [I_ x2] 20 rfl lv12_237_hang_11 (al 53 rfl hn) (wk53 dy) (by decide) rfl (Nat.le_refl _) (Nat.le_refl _) ?_
    exact h
  · have h := h.2 q2
    refine v_aload_n 14 0 rfl rfl rfl ?_
    refine v_iconst 15 rfl ?_
    refine v_callV (st := []) [I_ 2] 16 rfl lv12_155_hang_11 (al 53 rfl hn) (wk53 dy) (by decide) rfl (Nat.le_refl _) (Nat.le_refl _) ?_
    exact h
set_option maxHeartbeats 8000000 in
set_option maxRecDepth 4000 in
theorem bX12_hang_31 {d n : Nat} {dy : Nat → Shp} {g : Hp} {P : Pst} {x1 : Int} {x2 : Int} {x3 : Int} {x4 : Int} {xs0 : Int} (hn : 100 ≤ n) (h : (xs0 = 0 ∨ xs0 = 1) ∧ P (some (I_ xs0)) n (W0 dy) g) : V miX12_hang (d + 1) 31 [(0, .ref 53), (1, I_ x1), (2, I_ x2), (3, I_ x3), (4, I_ x4)] [I_ xs0] n (W0 dy) g 0 0 P := by
  have c1 := h.1
  have h := h.2
  exact v_ret (v := some (I_ xs0)) 17 rfl (Nat.zero_le _) (Nat.zero_le _) (rokZ c1) rfl h
set_option maxHeartbeats 8000000 in
set_option maxRecDepth 4000 in
theorem bX12_hang_37 {d n : Nat} {dy : Nat → Shp} {g : Hp} {P : Pst} {x1 : Int} {x2 : Int} {x3 : Int} {x4 : Int} {xs0 : Int} (hn : 100 ≤ n) (h : (i3 xs0) ∧ ((xs0 = 0) → Runs miX12_no d [.ref 53, I_ 5] n (W0 dy) g (fun v n' S' g' => V miX12_hang (d + 1) 63 [(0, .ref 53), (1, I_ x1), (2, I_ x2), (3, I_ x3), (4, I_ x4)] (v.toList ++ []) n' S' g' 0 0 P)) ∧ ((xs0 ≠ 0) → (0 ≤ x2 ∧ x2 < 60) ∧ (((g 57 x2.toNat) ≠ 3) → (i3 x3) ∧ ((x3 < 0) → Runs miX12_no d [.ref 53, I_ 7] n (W0 dy) g (fun v n' S' g' => V miX12_hang (d + 1) 102 [(0, .ref 53), (1, I_ x1), (2, I_ x2), (3, I_ x3), (4, I_ x4)] (v.toList ++ []) n' S' g' 0 0 P)) ∧ ((0 ≤ x3) → ((1 < x3) → Runs miX12_no d [.ref 53, I_ 7] n (W0 dy) g (fun v n' S' g' => V miX12_hang (d + 1) 102 [(0, .ref 53), (1, I_ x1), (2, I_ x2), (3, I_ x3), (4, I_ x4)] (v.toList ++ []) n' S' g' 0 0 P)) ∧ ((x3 ≤ 1) → (i3 x4) ∧ ((x4 < 1) → Runs miX12_no d [.ref 53, I_ 7] n (W0 dy) g (fun v n' S' g' => V miX12_hang (d + 1) 102 [(0, .ref 53), (1, I_ x1), (2, I_ x2), (3, I_ x3), (4, I_ x4)] (v.toList ++ []) n' S' g' 0 0 P)) ∧ ((1 ≤ x4) → ((1000 < x4) → Runs miX12_no d [.ref 53, I_ 7] n (W0 dy) g (fun v n' S' g' => V miX12_hang (d + 1) 102 [(0, .ref 53), (1, I_ x1), (2, I_ x2), (3, I_ x3), (4, I_ x4)] (v.toList ++ []) n' S' g' 0 0 P)) ∧ ((x4 ≤ 1000) → Runs miX12_isAbove d [.ref 53, I_ x1, I_ x2] n (W0 dy) g (fun v n' S' g' => V miX12_hang (d + 1) 93 [(0, .ref 53), (1, I_ x1), (2, I_ x2), (3, I_ x3), (4, I_ x4)] (v.toList ++ []) n' S' g' 0 0 P)))))) ∧ (((g 57 x2.toNat) = 3) → Runs miX12_isRod d [.ref 53, I_ x1] n (W0 dy) g (fun v n' S' g' => V miX12_hang (d + 1) 55 [(0, .ref 53), (1, I_ x1), (2, I_ x2), (3, I_ x3), (4, I_ x4)] (v.toList ++ []) n' S' g' 0 0 P)))) : V miX12_hang (d + 1) 37 [(0, .ref 53), (1, I_ x1), (2, I_ x2), (3, I_ x3), (4, I_ x4)] [I_ xs0] n (W0 dy) g 0 0 P := by
  have c1 := h.1
  have h := h.2
  refine v_if_eq 21 rfl (tgt := 58) rfl c1 (fun q2 => ?_) (fun q2 => ?_)
  · have h := h.1 q2
    refine v_aload_n 32 0 rfl rfl rfl ?_
    refine v_iconst 33 rfl ?_
    refine v_callV (st := []) [I_ 5] 34 rfl lv12_155_hang_11 (al 53 rfl hn) (wk53 dy) (by decide) rfl (Nat.le_refl _) (Nat.le_refl _) ?_
    exact h
  · have h := h.2 q2
    refine v_aload_n 22 0 rfl rfl rfl ?_
    refine v_gK 23 rfl fl12_20_11.r (al 53 rfl hn) (wk53 dy) (by decide) rfl (r := 57) (wc53_6 dy) ?_
    refine v_iload_n 24 2 rfl rfl rfl ?_
    have c3 := h.1
    have h := h.2
    refine v_ia (N := 60) 25 rfl (al 57 rfl hn) (wk57 dy) (wn57 dy) (by decide) c3 (y := g 57 x2.toNat) rfl ?_
    refine v_rng fun w4 => ?_
    have p5 : i3 (g 57 x2.toNat) := rI w4 (q := x2.toNat) (al 57 rfl hn) (wk57 dy) rfl rfl
    refine v_iconst 26 rfl ?_
    refine v_icmp_ne 27 rfl (tgt := 64) rfl p5 (by decide) (fun q6 => ?_) (fun q6 => ?_)
    · have h := h.1 q6
      refine v_iload_n 36 3 rfl rfl rfl ?_
      have c7 := h.1
      have h := h.2
      refine v_if_lt 37 rfl (tgt := 96) rfl c7 (fun q8 => ?_) (fun q8 => ?_)
      · have h := h.1 q8
        refine v_aload_n 52 0 rfl rfl rfl ?_
        refine v_bipush 53 rfl (by decide) ?_
        refine v_callV (st := []) [I_ 7] 54 rfl lv12_155_hang_11 (al 53 rfl hn) (wk53 dy) (by decide) rfl (Nat.le_refl _) (Nat.le_refl _) ?_
        exact h
      · have h := h.2 q8
        refine v_iload_n 38 3 rfl rfl rfl ?_
        refine v_iconst 39 rfl ?_
        refine v_icmp_gt 40 rfl (tgt := 96) rfl c7 (by decide) (fun q9 => ?_) (fun q9 => ?_)
        · have h := h.1 q9
          refine v_aload_n 52 0 rfl rfl rfl ?_
          refine v_bipush 53 rfl (by decide) ?_
          refine v_callV (st := []) [I_ 7] 54 rfl lv12_155_hang_11 (al 53 rfl hn) (wk53 dy) (by decide) rfl (Nat.le_refl _) (Nat.le_refl _) ?_
          exact h
        · have h := h.2 q9
          refine v_iload 41 4 rfl rfl ?_
          refine v_iconst 42 rfl ?_
          have c10 := h.1
          have h := h.2
          refine v_icmp_lt 43 rfl (tgt := 96) rfl c10 (by decide) (fun q11 => ?_) (fun q11 => ?_)
          · have h := h.1 q11
            refine v_aload_n 52 0 rfl rfl rfl ?_
            refine v_bipush 53 rfl (by decide) ?_
            refine v_callV (st := []) [I_ 7] 54 rfl lv12_155_hang_11 (al 53 rfl hn) (wk53 dy) (by decide) rfl (Nat.le_refl _) (Nat.le_refl _) ?_
            exact h
          · have h := h.2 q11
            refine v_iload 44 4 rfl rfl ?_
            refine v_sipush 45 rfl (by decide) ?_
            refine v_icmp_gt 46 rfl (tgt := 96) rfl c10 (by decide) (fun q12 => ?_) (fun q12 => ?_)
            · have h := h.1 q12
              refine v_aload_n 52 0 rfl rfl rfl ?_
              refine v_bipush 53 rfl (by decide) ?_
              refine v_callV (st := []) [I_ 7] 54 rfl lv12_155_hang_11 (al 53 rfl hn) (wk53 dy) (by decide) rfl (Nat.le_refl _) (Nat.le_refl _) ?_
              exact h
            · have h := h.2 q12
              refine v_aload_n 47 0 rfl rfl rfl ?_
              refine v_iload_n 48 1 rfl rfl rfl ?_
              refine v_iload_n 49 2 rfl rfl rfl ?_
              refine v_callV (st := []) [I_ x1, I_ x2] 50 rfl lv12_243_hang_11 (al 53 rfl hn) (wk53 dy) (by decide) rfl (Nat.le_refl _) (Nat.le_refl _) ?_
              exact h
    · have h := h.2 q6
      refine v_aload_n 28 0 rfl rfl rfl ?_
      refine v_iload_n 29 1 rfl rfl rfl ?_
      refine v_callV (st := []) [I_ x1] 30 rfl lv12_237_hang_11 (al 53 rfl hn) (wk53 dy) (by decide) rfl (Nat.le_refl _) (Nat.le_refl _) ?_
      exact h
set_option maxHeartbeats 8000000 in
set_option maxRecDepth 4000 in
theorem bX12_hang_55 {d n : Nat} {dy : Nat → Shp} {g : Hp} {P : Pst} {x1 : Int} {x2 : Int} {x3 : Int} {x4 : Int} {xs0 : Int} (hn : 100 ≤ n) (h : (i3 xs0) ∧ ((xs0 = 0) → (i3 x3) ∧ ((x3 < 0) → Runs miX12_no d [.ref 53, I_ 7] n (W0 dy) g (fun v n' S' g' => V miX12_hang (d + 1) 102 [(0, .ref 53), (1, I_ x1), (2, I_ x2), (3, I_ x3), (4, I_ x4)] (v.toList ++ []) n' S' g' 0 0 P)) ∧ ((0 ≤ x3) → ((1 < x3) → Runs miX12_no d [.ref 53, I_ 7] n (W0 dy) g (fun v n' S' g' => V miX12_hang (d + 1) 102 [(0, .ref 53), (1, I_ x1), (2, I_ x2), (3, I_ x3), (4, I_ x4)] (v.toList ++ []) n' S' g' 0 0 P)) ∧ ((x3 ≤ 1) → (i3 x4) ∧ ((x4 < 1) → Runs miX12_no d [.ref 53, I_ 7] n (W0 dy) g (fun v n' S' g' => V miX12_hang (d + 1) 102 [(0, .ref 53), (1, I_ x1), (2, I_ x2), (3, I_ x3), (4, I_ x4)] (v.toList ++ []) n' S' g' 0 0 P)) ∧ ((1 ≤ x4) → ((1000 < x4) → Runs miX12_no d [.ref 53, I_ 7] n (W0 dy) g (fun v n' S' g' => V miX12_hang (d + 1) 102 [(0, .ref 53), (1, I_ x1), (2, I_ x2), (3, I_ x3), (4, I_ x4)] (v.toList ++ []) n' S' g' 0 0 P)) ∧ ((x4 ≤ 1000) → Runs miX12_isAbove d [.ref 53, I_ x1, I_ x2] n (W0 dy) g (fun v n' S' g' => V miX12_hang (d + 1) 93 [(0, .ref 53), (1, I_ x1), (2, I_ x2), (3, I_ x3), (4, I_ x4)] (v.toList ++ []) n' S' g' 0 0 P)))))) ∧ ((xs0 ≠ 0) → Runs miX12_no d [.ref 53, I_ 5] n (W0 dy) g (fun v n' S' g' => V miX12_hang (d + 1) 63 [(0, .ref 53), (1, I_ x1), (2, I_ x2), (3, I_ x3), (4, I_ x4)] (v.toList ++ []) n' S' g' 0 0 P))) : V miX12_hang (d + 1) 55 [(0, .ref 53), (1, I_ x1), (2, I_ x2), (3, I_ x3), (4, I_ x4)] [I_ xs0] n (W0 dy) g 0 0 P := by
  have c1 := h.1
  have h := h.2
  refine v_if_eq 31 rfl (tgt := 64) rfl c1 (fun q2 => ?_) (fun q2 => ?_)
  · have h := h.1 q2
    refine v_iload_n 36 3 rfl rfl rfl ?_
    have c3 := h.1
    have h := h.2
    refine v_if_lt 37 rfl (tgt := 96) rfl c3 (fun q4 => ?_) (fun q4 => ?_)
    · have h := h.1 q4
      refine v_aload_n 52 0 rfl rfl rfl ?_
      refine v_bipush 53 rfl (by decide) ?_
      refine v_callV (st := []) [I_ 7] 54 rfl lv12_155_hang_11 (al 53 rfl hn) (wk53 dy) (by decide) rfl (Nat.le_refl _) (Nat.le_refl _) ?_
      exact h
    · have h := h.2 q4
      refine v_iload_n 38 3 rfl rfl rfl ?_
      refine v_iconst 39 rfl ?_
      refine v_icmp_gt 40 rfl (tgt := 96) rfl c3 (by decide) (fun q5 => ?_) (fun q5 => ?_)
      · have h := h.1 q5
        refine v_aload_n 52 0 rfl rfl rfl ?_
        refine v_bipush 53 rfl (by decide) ?_
        refine v_callV (st := []) [I_ 7] 54 rfl lv12_155_hang_11 (al 53 rfl hn) (wk53 dy) (by decide) rfl (Nat.le_refl _) (Nat.le_refl _) ?_
        exact h
      · have h := h.2 q5
        refine v_iload 41 4 rfl rfl ?_
        refine v_iconst 42 rfl ?_
        have c6 := h.1
        have h := h.2
        refine v_icmp_lt 43 rfl (tgt := 96) rfl c6 (by decide) (fun q7 => ?_) (fun q7 => ?_)
        · have h := h.1 q7
          refine v_aload_n 52 0 rfl rfl rfl ?_
          refine v_bipush 53 rfl (by decide) ?_
          refine v_callV (st := []) [I_ 7] 54 rfl lv12_155_hang_11 (al 53 rfl hn) (wk53 dy) (by decide) rfl (Nat.le_refl _) (Nat.le_refl _) ?_
          exact h
        · have h := h.2 q7
          refine v_iload 44 4 rfl rfl ?_
          refine v_sipush 45 rfl (by decide) ?_
          refine v_icmp_gt 46 rfl (tgt := 96) rfl c6 (by decide) (fun q8 => ?_) (fun q8 => ?_)
          · have h := h.1 q8
            refine v_aload_n 52 0 rfl rfl rfl ?_
            refine v_bipush 53 rfl (by decide) ?_
            refine v_callV (st := []) [I_ 7] 54 rfl lv12_155_hang_11 (al 53 rfl hn) (wk53 dy) (by decide) rfl (Nat.le_refl _) (Nat.le_refl _) ?_
            exact h
          · have h := h.2 q8
            refine v_aload_n 47 0 rfl rfl rfl ?_
            refine v_iload_n 48 1 rfl rfl rfl ?_
            refine v_iload_n 49 2 rfl rfl rfl ?_
            refine v_callV (st := []) [I_ x1, I_ x2] 50 rfl lv12_243_hang_11 (al 53 rfl hn) (wk53 dy) (by decide) rfl (Nat.le_refl _) (Nat.le_refl _) ?_
            exact h
  · have h := h.2 q2
    refine v_aload_n 32 0 rfl rfl rfl ?_
    refine v_iconst 33 rfl ?_
    refine v_callV (st := []) [I_ 5] 34 rfl lv12_155_hang_11 (al 53 rfl hn) (wk53 dy) (by decide) rfl (Nat.le_refl _) (Nat.le_refl _) ?_
    exact h
set_option maxHeartbeats 8000000 in
set_option maxRecDepth 4000 in
theorem bX12_hang_63 {d n : Nat} {dy : Nat → Shp} {g : Hp} {P : Pst} {x1 : Int} {x2 : Int} {x3 : Int} {x4 : Int} {xs0 : Int} (hn : 100 ≤ n) (h : (xs0 = 0 ∨ xs0 = 1) ∧ P (some (I_ xs0)) n (W0 dy) g) : V miX12_hang (d + 1) 63 [(0, .ref 53), (1, I_ x1), (2, I_ x2), (3, I_ x3), (4, I_ x4)] [I_ xs0] n (W0 dy) g 0 0 P := by
  have c1 := h.1
  have h := h.2
  exact v_ret (v := some (I_ xs0)) 35 rfl (Nat.zero_le _) (Nat.zero_le _) (rokZ c1) rfl h
set_option maxHeartbeats 8000000 in
set_option maxRecDepth 4000 in
theorem bX12_hang_93 {d n : Nat} {dy : Nat → Shp} {g : Hp} {P : Pst} {x1 : Int} {x2 : Int} {x3 : Int} {x4 : Int} {xs0 : Int} (hn : 100 ≤ n) (h : (i3 xs0) ∧ ((xs0 = 0) → (0 ≤ x1 ∧ x1 < 60) ∧ ((0 ≤ (g 60 x1.toNat)) → Runs miX12_no d [.ref 53, I_ 8] n (W0 dy) g (fun v n' S' g' => V miX12_hang (d + 1) 140 [(0, .ref 53), (1, I_ x1), (2, I_ x2), (3, I_ x3), (4, I_ x4)] (v.toList ++ []) n' S' g' 0 0 P)) ∧ (((g 60 x1.toNat) < 0) → (i3 x3) ∧ ((x3 ≠ 0) → (0 ≤ x2 ∧ x2 < 60) ∧ (((g 67 x2.toNat) < 0) → (i3 x4) ∧ ((x3 ≠ 0) → P (some (I_ 1)) n (W0 dy) (up2 (up2 (up2 (up2 g 60 x1.toNat x2) 61 x1.toNat x3) 62 x1.toNat x4) 67 x2.toNat x1)) ∧ ((x3 = 0) → P (some (I_ 1)) n (W0 dy) (up2 (up2 (up2 (up2 g 60 x1.toNat x2) 61 x1.toNat x3) 62 x1.toNat x4) 66 x2.toNat x1))) ∧ ((0 ≤ (g 67 x2.toNat)) → Runs miX12_no d [.ref 53, I_ 8] n (W0 dy) g (fun v n' S' g' => V miX12_hang (d + 1) 140 [(0, .ref 53), (1, I_ x1), (2, I_ x2), (3, I_ x3), (4, I_ x4)] (v.toList ++ []) n' S' g' 0 0 P))) ∧ ((x3 = 0) → (0 ≤ x2 ∧ x2 < 60) ∧ (((g 66 x2.toNat) < 0) → (i3 x4) ∧ ((x3 ≠ 0) → P (some (I_ 1)) n (W0 dy) (up2 (up2 (up2 (up2 g 60 x1.toNat x2) 61 x1.toNat x3) 62 x1.toNat x4) 67 x2.toNat x1)) ∧ ((x3 = 0) → P (some (I_ 1)) n (W0 dy) (up2 (up2 (up2 (up2 g 60 x1.toNat x2) 61 x1.toNat x3) 62 x1.toNat x4) 66 x2.toNat x1))) ∧ ((0 ≤ (g 66 x2.toNat)) → Runs miX12_no d [.ref 53, I_ 8] n (W0 dy) g (fun v n' S' g' => V miX12_hang (d + 1) 140 [(0, .ref 53), (1, I_ x1), (2, I_ x2), (3, I_ x3), (4, I_ x4)] (v.toList ++ []) n' S' g' 0 0 P))))) ∧ ((xs0 ≠ 0) → Runs miX12_no d [.ref 53, I_ 7] n (W0 dy) g (fun v n' S' g' => V miX12_hang (d + 1) 102 [(0, .ref 53), (1, I_ x1), (2, I_ x2), (3, I_ x3), (4, I_ x4)] (v.toList ++ []) n' S' g' 0 0 P))) : V miX12_hang (d + 1) 93 [(0, .ref 53), (1, I_ x1), (2, I_ x2), (3, I_ x3), (4, I_ x4)] [I_ xs0] n (W0 dy) g 0 0 P := by
  have c1 := h.1
  have h := h.2
  refine v_if_eq 51 rfl (tgt := 103) rfl c1 (fun q2 => ?_) (fun q2 => ?_)
  · have h := h.1 q2
    refine v_aload_n 56 0 rfl rfl rfl ?_
    refine v_gK 57 rfl fl12_29_11.r (al 53 rfl hn) (wk53 dy) (by decide) rfl (r := 60) (wc53_9 dy) ?_
    refine v_iload_n 58 1 rfl rfl rfl ?_
    have c3 := h.1
    have h := h.2
    refine v_ia (N := 60) 59 rfl (al 60 rfl hn) (wk60 dy) (wn60 dy) (by decide) c3 (y := g 60 x1.toNat) rfl ?_
    refine v_rng fun w4 => ?_
    have p5 : i3 (g 60 x1.toNat) := rI w4 (q := x1.toNat) (al 60 rfl hn) (wk60 dy) rfl rfl
    refine v_if_ge 60 rfl (tgt := 134) rfl p5 (fun q6 => ?_) (fun q6 => ?_)
    · have h := h.1 q6
      refine v_aload_n 73 0 rfl rfl rfl ?_
      refine v_bipush 74 rfl (by decide) ?_
      refine v_callV (st := []) [I_ 8] 75 rfl lv12_155_hang_11 (al 53 rfl hn) (wk53 dy) (by decide) rfl (Nat.le_refl _) (Nat.le_refl _) ?_
      exact h
    · have h := h.2 q6
      refine v_iload_n 61 3 rfl rfl rfl ?_
      have c7 := h.1
      have h := h.2
      refine v_if_ne 62 rfl (tgt := 125) rfl c7 (fun q8 => ?_) (fun q8 => ?_)
      · have h := h.1 q8
        refine v_aload_n 68 0 rfl rfl rfl ?_
        refine v_gK 69 rfl fl12_50_11.r (al 53 rfl hn) (wk53 dy) (by decide) rfl (r := 67) (wc53_16 dy) ?_
        refine v_iload_n 70 2 rfl rfl rfl ?_
        have c9 := h.1
        have h := h.2
        refine v_ia (N := 60) 71 rfl (al 67 rfl hn) (wk67 dy) (wn67 dy) (by decide) c9 (y := g 67 x2.toNat) rfl ?_
        refine v_rng fun w10 => ?_
        have p11 : i3 (g 67 x2.toNat) := rI w10 (q := x2.toNat) (al 67 rfl hn) (wk67 dy) rfl rfl
        refine v_if_lt 72 rfl (tgt := 141) rfl p11 (fun q12 => ?_) (fun q12 => ?_)
        · have h := h.1 q12
          refine v_aload_n 77 0 rfl rfl rfl ?_
          refine v_gK 78 rfl fl12_29_11.r (al 53 rfl hn) (wk53 dy) (by decide) rfl (r := 60) (wc53_9 dy) ?_
          refine v_iload_n 79 1 rfl rfl rfl ?_
          refine v_iload_n 80 2 rfl rfl rfl ?_
          refine v_iast (N := 60) 81 rfl (al 60 rfl hn) (wk60 dy) (wn60 dy) (by decide) c3 (ix3 c9 (by decide)) ?_
          refine v_aload_n 82 0 rfl rfl rfl ?_
          refine v_gK 83 rfl fl12_32_11.r (al 53 rfl hn) (wk53 dy) (by decide) rfl (r := 61) (wc53_10 dy) ?_
          refine v_iload_n 84 1 rfl rfl rfl ?_
          refine v_iload_n 85 3 rfl rfl rfl ?_
          refine v_iast (N := 60) 86 rfl (al 61 rfl hn) (wk61 dy) (wn61 dy) (by decide) c3 c7 ?_
          refine v_aload_n 87 0 rfl rfl rfl ?_
          refine v_gK 88 rfl fl12_35_11.r (al 53 rfl hn) (wk53 dy) (by decide) rfl (r := 62) (wc53_11 dy) ?_
          refine v_iload_n 89 1 rfl rfl rfl ?_
          refine v_iload 90 4 rfl rfl ?_
          have c13 := h.1
          have h := h.2
          refine v_iast (N := 60) 91 rfl (al 62 rfl hn) (wk62 dy) (wn62 dy) (by decide) c3 c13 ?_
          refine v_iload_n 92 3 rfl rfl rfl ?_
          refine v_if_ne 93 rfl (tgt := 177) rfl c7 (fun q14 => ?_) (fun q14 => ?_)
          · have h := h.1 q14
            refine v_aload_n 100 0 rfl rfl rfl ?_
            refine v_gK 101 rfl fl12_50_11.r (al 53 rfl hn) (wk53 dy) (by decide) rfl (r := 67) (wc53_16 dy) ?_
            refine v_iload_n 102 2 rfl rfl rfl ?_
            refine v_iload_n 103 1 rfl rfl rfl ?_
            refine v_iast (N := 60) 104 rfl (al 67 rfl hn) (wk67 dy) (wn67 dy) (by decide) c9 (ix3 c3 (by decide)) ?_
            refine v_iconst 105 rfl ?_
            exact v_ret (v := some (I_ 1)) 106 rfl (Nat.zero_le _) (Nat.zero_le _) (Or.inr rfl) rfl h
          · have h := h.2 q14
            refine v_aload_n 94 0 rfl rfl rfl ?_
            refine v_gK 95 rfl fl12_47_11.r (al 53 rfl hn) (wk53 dy) (by decide) rfl (r := 66) (wc53_15 dy) ?_
            refine v_iload_n 96 2 rfl rfl rfl ?_
            refine v_iload_n 97 1 rfl rfl rfl ?_
            refine v_iast (N := 60) 98 rfl (al 66 rfl hn) (wk66 dy) (wn66 dy) (by decide) c9 (ix3 c3 (by decide)) ?_
            refine v_goto 99 rfl (tgt := 184) rfl ?_
            refine v_iconst 105 rfl ?_
            exact v_ret (v := some (I_ 1)) 106 rfl (Nat.zero_le _) (Nat.zero_le _) (Or.inr rfl) rfl h
        · have h := h.2 q12
          refine v_aload_n 73 0 rfl rfl rfl ?_
          refine v_bipush 74 rfl (by decide) ?_
          refine v_callV (st := []) [I_ 8] 75 rfl lv12_155_hang_11 (al 53 rfl hn) (wk53 dy) (by decide) rfl (Nat.le_refl _) (Nat.le_refl _) ?_
          exact h
      · have h := h.2 q8
        refine v_aload_n 63 0 rfl rfl rfl ?_
        refine v_gK 64 rfl fl12_47_11.r (al 53 rfl hn) (wk53 dy) (by decide) rfl (r := 66) (wc53_15 dy) ?_
        refine v_iload_n 65 2 rfl rfl rfl ?_
        have c15 := h.1
        have h := h.2
        refine v_ia (N := 60) 66 rfl (al 66 rfl hn) (wk66 dy) (wn66 dy) (by decide) c15 (y := g 66 x2.toNat) rfl ?_
        refine v_rng fun w16 => ?_
        have p17 : i3 (g 66 x2.toNat) := rI w16 (q := x2.toNat) (al 66 rfl hn) (wk66 dy) rfl rfl
        refine v_goto 67 rfl (tgt := 131) rfl ?_
        refine v_if_lt 72 rfl (tgt := 141) rfl p17 (fun q18 => ?_) (fun q18 => ?_)
        · have h := h.1 q18
          refine v_aload_n 77 0 rfl rfl rfl ?_
          refine v_gK 78 rfl fl12_29_11.r (al 53 rfl hn) (wk53 dy) (by decide) rfl (r := 60) (wc53_9 dy) ?_
          refine v_iload_n 79 1 rfl rfl rfl ?_
          refine v_iload_n 80 2 rfl rfl rfl ?_
          refine v_iast (N := 60) 81 rfl (al 60 rfl hn) (wk60 dy) (wn60 dy) (by decide) c3 (ix3 c15 (by decide)) ?_
          refine v_aload_n 82 0 rfl rfl rfl ?_
          refine v_gK 83 rfl fl12_32_11.r (al 53 rfl hn) (wk53 dy) (by decide) rfl (r := 61) (wc53_10 dy) ?_
          refine v_iload_n 84 1 rfl rfl rfl ?_
          refine v_iload_n 85 3 rfl rfl rfl ?_
          refine v_iast (N := 60) 86 rfl (al 61 rfl hn) (wk61 dy) (wn61 dy) (by decide) c3 c7 ?_
          refine v_aload_n 87 0 rfl rfl rfl ?_
          refine v_gK 88 rfl fl12_35_11.r (al 53 rfl hn) (wk53 dy) (by decide) rfl (r := 62) (wc53_11 dy) ?_
          refine v_iload_n 89 1 rfl rfl rfl ?_
          refine v_iload 90 4 rfl rfl ?_
          have c19 := h.1
          have h := h.2
          refine v_iast (N := 60) 91 rfl (al 62 rfl hn) (wk62 dy) (wn62 dy) (by decide) c3 c19 ?_
          refine v_iload_n 92 3 rfl rfl rfl ?_
          refine v_if_ne 93 rfl (tgt := 177) rfl c7 (fun q20 => ?_) (fun q20 => ?_)
          · have h := h.1 q20
            refine v_aload_n 100 0 rfl rfl rfl ?_
            refine v_gK 101 rfl fl12_50_11.r (al 53 rfl hn) (wk53 dy) (by decide) rfl (r := 67) (wc53_16 dy) ?_
            refine v_iload_n 102 2 rfl rfl rfl ?_
            refine v_iload_n 103 1 rfl rfl rfl ?_
            refine v_iast (N := 60) 104 rfl (al 67 rfl hn) (wk67 dy) (wn67 dy) (by decide) c15 (ix3 c3 (by decide)) ?_
            refine v_iconst 105 rfl ?_
            exact v_ret (v := some (I_ 1)) 106 rfl (Nat.zero_le _) (Nat.zero_le _) (Or.inr rfl) rfl h
          · have h := h.2 q20
            refine v_aload_n 94 0 rfl rfl rfl ?_
            refine v_gK 95 rfl fl12_47_11.r (al 53 rfl hn) (wk53 dy) (by decide) rfl (r := 66) (wc53_15 dy) ?_
            refine v_iload_n 96 2 rfl rfl rfl ?_
            refine v_iload_n 97 1 rfl rfl rfl ?_
            refine v_iast (N := 60) 98 rfl (al 66 rfl hn) (wk66 dy) (wn66 dy) (by decide) c15 (ix3 c3 (by decide)) ?_
            refine v_goto 99 rfl (tgt := 184) rfl ?_
            refine v_iconst 105 rfl ?_
            exact v_ret (v := some (I_ 1)) 106 rfl (Nat.zero_le _) (Nat.zero_le _) (Or.inr rfl) rfl h
        · have h := h.2 q18
          refine v_aload_n 73 0 rfl rfl rfl ?_
          refine v_bipush 74 rfl (by decide) ?_
          refine v_callV (st := []) [I_ 8] 75 rfl lv12_155_hang_11 (al 53 rfl hn) (wk53 dy) (by decide) rfl (Nat.le_refl _) (Nat.le_refl _) ?_
          exact h
  · have h := h.2 q2
    refine v_aload_n 52 0 rfl rfl rfl ?_
    refine v_bipush 53 rfl (by decide) ?_
    refine v_callV (st := []) [I_ 7] 54 rfl lv12_155_hang_11 (al 53 rfl hn) (wk53 dy) (by decide) rfl (Nat.le_refl _) (Nat.le_refl _) ?_
    exact h
set_option maxHeartbeats 8000000 in
set_option maxRecDepth 4000 in
theorem bX12_hang_102 {d n : Nat} {dy : Nat → Shp} {g : Hp} {P : Pst} {x1 : Int} {x2 : Int} {x3 : Int} {x4 : Int} {xs0 : Int} (hn : 100 ≤ n) (h : (xs0 = 0 ∨ xs0 = 1) ∧ P (some (I_ xs0)) n (W0 dy) g) : V miX12_hang (d + 1) 102 [(0, .ref 53), (1, I_ x1), (2, I_ x2), (3, I_ x3), (4, I_ x4)] [I_ xs0] n (W0 dy) g 0 0 P := by
  have c1 := h.1
  have h := h.2
  exact v_ret (v := some (I_ xs0)) 55 rfl (Nat.zero_le _) (Nat.zero_le _) (rokZ c1) rfl h
set_option maxHeartbeats 8000000 in
set_option maxRecDepth 4000 in
theorem bX12_hang_140 {d n : Nat} {dy : Nat → Shp} {g : Hp} {P : Pst} {x1 : Int} {x2 : Int} {x3 : Int} {x4 : Int} {xs0 : Int} (hn : 100 ≤ n) (h : (xs0 = 0 ∨ xs0 = 1) ∧ P (some (I_ xs0)) n (W0 dy) g) : V miX12_hang (d + 1) 140 [(0, .ref 53), (1, I_ x1), (2, I_ x2), (3, I_ x3), (4, I_ x4)] [I_ xs0] n (W0 dy) g 0 0 P := by
  have c1 := h.1
  have h := h.2
  exact v_ret (v := some (I_ xs0)) 76 rfl (Nat.zero_le _) (Nat.zero_le _) (rokZ c1) rfl h
theorem wX12_hang {d n : Nat} {dy : Nat → Shp} {g : Hp} {P : Pst} {x1 : Int} {x2 : Int} {x3 : Int} {x4 : Int} (hn : 100 ≤ n) (h : Runs miX12_isPart d [.ref 53, I_ x1] n (W0 dy) (up2 (up2 g 53 1 0) 53 0 0) (fun v n' S' g' => V miX12_hang (d + 1) 15 [(0, .ref 53), (1, I_ x1), (2, I_ x2), (3, I_ x3), (4, I_ x4)] (v.toList ++ []) n' S' g' 0 0 P)) : Runs miX12_hang (d + 1) [.ref 53, I_ x1, I_ x2, I_ x3, I_ x4] n (W0 dy) g P := Runs.of rfl rfl deX12_hang (Nat.le_of_ble_eq_true rfl) (bX12_hang_0 hn h)
set_option maxHeartbeats 8000000 in
set_option maxRecDepth 4000 in
theorem bX12_takeOff_0 {d n : Nat} {dy : Nat → Shp} {g : Hp} {P : Pst} {x1 : Int} (hn : 100 ≤ n) (h : (0 ≤ x1 ∧ x1 < 60) ∧ (((g 61 x1.toNat) ≠ 0) → (0 ≤ g 60 x1.toNat ∧ g 60 x1.toNat < 60) ∧ P none n (W0 dy) (up2 (up2 (up2 (up2 g 67 ((g 60 x1.toNat).toNat) ((-1))) 60 x1.toNat ((-1))) 61 x1.toNat ((-1))) 62 x1.toNat 0)) ∧ (((g 61 x1.toNat) = 0) → (0 ≤ g 60 x1.toNat ∧ g 60 x1.toNat < 60) ∧ P none n (W0 dy) (up2 (up2 (up2 (up2 g 66 ((g 60 x1.toNat).toNat) ((-1))) 60 x1.toNat ((-1))) 61 x1.toNat ((-1))) 62 x1.toNat 0))) : V miX12_takeOff d 0 [(0, .ref 53), (1, I_ x1)] [] n (W0 dy) g 0 0 P := by
  refine v_aload_n 0 0 rfl rfl rfl ?_
  refine v_gK 1 rfl fl12_32_11.r (al 53 rfl hn) (wk53 dy) (by decide) rfl (r := 61) (wc53_10 dy) ?_
  refine v_iload_n 2 1 rfl rfl rfl ?_
  have c1 := h.1
  have h := h.2
  refine v_ia (N := 60) 3 rfl (al 61 rfl hn) (wk61 dy) (wn61 dy) (by decide) c1 (y := g 61 x1.toNat) rfl ?_
  refine v_rng fun w2 => ?_
  have p3 : i3 (g 61 x1.toNat) := rI w2 (q := x1.toNat) (al 61 rfl hn) (wk61 dy) rfl rfl
  refine v_if_ne 4 rfl (tgt := 24) rfl p3 (fun q4 => ?_) (fun q4 => ?_)
  · have h := h.1 q4
    refine v_aload_n 14 0 rfl rfl rfl ?_
    refine v_gK 15 rfl fl12_50_11.r (al 53 rfl hn) (wk53 dy) (by decide) rfl (r := 67) (wc53_16 dy) ?_
    refine v_aload_n 16 0 rfl rfl rfl ?_
    refine v_gK 17 rfl fl12_29_11.r (al 53 rfl hn) (wk53 dy) (by decide) rfl (r := 60) (wc53_9 dy) ?_
    refine v_iload_n 18 1 rfl rfl rfl ?_
    refine v_ia (N := 60) 19 rfl (al 60 rfl hn) (wk60 dy) (wn60 dy) (by decide) c1 (y := g 60 x1.toNat) rfl ?_
    refine v_rng fun w5 => ?_
    have p6 : i3 (g 60 x1.toNat) := rI w5 (q := x1.toNat) (al 60 rfl hn) (wk60 dy) rfl rfl
    refine v_iconst 20 rfl ?_
    have c7 := h.1
    have h := h.2
    refine v_iast (N := 60) 21 rfl (al 67 rfl hn) (wk67 dy) (wn67 dy) (by decide) c7 (by decide) ?_
    refine v_aload_n 22 0 rfl rfl rfl ?_
    refine v_gK 23 rfl fl12_29_11.r (al 53 rfl hn) (wk53 dy) (by decide) rfl (r := 60) (wc53_9 dy) ?_
    refine v_iload_n 24 1 rfl rfl rfl ?_
    refine v_iconst 25 rfl ?_
    refine v_iast (N := 60) 26 rfl (al 60 rfl hn) (wk60 dy) (wn60 dy) (by decide) c1 (by decide) ?_
    refine v_aload_n 27 0 rfl rfl rfl ?_
    refine v_gK 28 rfl fl12_32_11.r (al 53 rfl hn) (wk53 dy) (by decide) rfl (r := 61) (wc53_10 dy) ?_
    refine v_iload_n 29 1 rfl rfl rfl ?_
    refine v_iconst 30 rfl ?_
    refine v_iast (N := 60) 31 rfl (al 61 rfl hn) (wk61 dy) (wn61 dy) (by decide) c1 (by decide) ?_
    refine v_aload_n 32 0 rfl rfl rfl ?_
    refine v_gK 33 rfl fl12_35_11.r (al 53 rfl hn) (wk53 dy) (by decide) rfl (r := 62) (wc53_11 dy) ?_
    refine v_iload_n 34 1 rfl rfl rfl ?_
    refine v_iconst 35 rfl ?_
    refine v_iast (N := 60) 36 rfl (al 62 rfl hn) (wk62 dy) (wn62 dy) (by decide) c1 (by decide) ?_
    exact v_ret (v := none) 37 rfl (Nat.zero_le _) (Nat.zero_le _) trivial rfl h
  · have h := h.2 q4
    refine v_aload_n 5 0 rfl rfl rfl ?_
    refine v_gK 6 rfl fl12_47_11.r (al 53 rfl hn) (wk53 dy) (by decide) rfl (r := 66) (wc53_15 dy) ?_
    refine v_aload_n 7 0 rfl rfl rfl ?_
    refine v_gK 8 rfl fl12_29_11.r (al 53 rfl hn) (wk53 dy) (by decide) rfl (r := 60) (wc53_9 dy) ?_
    refine v_iload_n 9 1 rfl rfl rfl ?_
    refine v_ia (N := 60) 10 rfl (al 60 rfl hn) (wk60 dy) (wn60 dy) (by decide) c1 (y := g 60 x1.toNat) rfl ?_
    refine v_rng fun w8 => ?_
    have p9 : i3 (g 60 x1.toNat) := rI w8 (q := x1.toNat) (al 60 rfl hn) (wk60 dy) rfl rfl
    refine v_iconst 11 rfl ?_
    have c10 := h.1
    have h := h.2
    refine v_iast (N := 60) 12 rfl (al 66 rfl hn) (wk66 dy) (wn66 dy) (by decide) c10 (by decide) ?_
    refine v_goto 13 rfl (tgt := 36) rfl ?_
    refine v_aload_n 22 0 rfl rfl rfl ?_
    refine v_gK 23 rfl fl12_29_11.r (al 53 rfl hn) (wk53 dy) (by decide) rfl (r := 60) (wc53_9 dy) ?_
    refine v_iload_n 24 1 rfl rfl rfl ?_
    refine v_iconst 25 rfl ?_
    refine v_iast (N := 60) 26 rfl (al 60 rfl hn) (wk60 dy) (wn60 dy) (by decide) c1 (by decide) ?_
    refine v_aload_n 27 0 rfl rfl rfl ?_
    refine v_gK 28 rfl fl12_32_11.r (al 53 rfl hn) (wk53 dy) (by decide) rfl (r := 61) (wc53_10 dy) ?_
    refine v_iload_n 29 1 rfl rfl rfl ?_
    refine v_iconst 30 rfl ?_
    refine v_iast (N := 60) 31 rfl (al 61 rfl hn) (wk61 dy) (wn61 dy) (by decide) c1 (by decide) ?_
    refine v_aload_n 32 0 rfl rfl rfl ?_
    refine v_gK 33 rfl fl12_35_11.r (al 53 rfl hn) (wk53 dy) (by decide) rfl (r := 62) (wc53_11 dy) ?_
    refine v_iload_n 34 1 rfl rfl rfl ?_
    refine v_iconst 35 rfl ?_
    refine v_iast (N := 60) 36 rfl (al 62 rfl hn) (wk62 dy) (wn62 dy) (by decide) c1 (by decide) ?_
    exact v_ret (v := none) 37 rfl (Nat.zero_le _) (Nat.zero_le _) trivial rfl h
theorem wX12_takeOff {d n : Nat} {dy : Nat → Shp} {g : Hp} {P : Pst} {x1 : Int} (hn : 100 ≤ n) (h : (0 ≤ x1 ∧ x1 < 60) ∧ (((g 61 x1.toNat) ≠ 0) → (0 ≤ g 60 x1.toNat ∧ g 60 x1.toNat < 60) ∧ P none n (W0 dy) (up2 (up2 (up2 (up2 g 67 ((g 60 x1.toNat).toNat) ((-1))) 60 x1.toNat ((-1))) 61 x1.toNat ((-1))) 62 x1.toNat 0)) ∧ (((g 61 x1.toNat) = 0) → (0 ≤ g 60 x1.toNat ∧ g 60 x1.toNat < 60) ∧ P none n (W0 dy) (up2 (up2 (up2 (up2 g 66 ((g 60 x1.toNat).toNat) ((-1))) 60 x1.toNat ((-1))) 61 x1.toNat ((-1))) 62 x1.toNat 0))) : Runs miX12_takeOff d [.ref 53, I_ x1] n (W0 dy) g P := Runs.of rfl rfl deX12_takeOff (Nat.le_of_ble_eq_true rfl) (bX12_takeOff_0 hn h)
