set_option maxHeartbeats 8000000 in
set_option maxRecDepth 4000 in
theorem bX12_isWhole_0 {d n : Nat} {dy : Nat → Shp} {g : Hp} {P : Pst} {x1 : Int} (hn : 100 ≤ n) (h : (0 ≤ x1 ∧ x1 < 60) ∧ (i6 ((g 59 x1.toNat) * (g 64 x1.toNat))) ∧ (g 65 x1.toNat ≠ 0) ∧ (i6 (((g 59 x1.toNat) * (g 64 x1.toNat)).tmod (g 65 x1.toNat))) ∧ (((((g 59 x1.toNat) * (g 64 x1.toNat)).tmod (g 65 x1.toNat)) ≠ 0) → P (some (I_ 0)) n (W0 dy) g) ∧ (((((g 59 x1.toNat) * (g 64 x1.toNat)).tmod (g 65 x1.toNat)) = 0) → P (some (I_ 1)) n (W0 dy) g)) : V miX12_isWhole d 0 [(0, .ref 53), (1, I_ x1)] [] n (W0 dy) g 0 0 P := by
  refine v_aload_n 0 0 rfl rfl rfl ?_
  refine v_gK 1 rfl fl12_26_11.r (al 53 rfl hn) (wk53 dy) (by decide) rfl (r := 59) (wc53_8 dy) ?_
  refine v_iload_n 2 1 rfl rfl rfl ?_
  have c1 := h.1
  have h := h.2
  refine v_ia (N := 60) 3 rfl (al 59 rfl hn) (wk59 dy) (wn59 dy) (by decide) c1 (y := g 59 x1.toNat) rfl ?_
  refine v_rng fun w2 => ?_
  have p3 : i3 (g 59 x1.toNat) := rI w2 (q := x1.toNat) (al 59 rfl hn) (wk59 dy) rfl rfl
  refine v_i2l 4 rfl p3 ?_
  refine v_aload_n 5 0 rfl rfl rfl ?_
  refine v_gK 6 rfl fl12_41_11.r (al 53 rfl hn) (wk53 dy) (by decide) rfl (r := 64) (wc53_13 dy) ?_
  refine v_iload_n 7 1 rfl rfl rfl ?_
  refine v_la (N := 60) 8 rfl (al 64 rfl hn) (wk64 dy) (wn64 dy) (by decide) c1 (y := g 64 x1.toNat) rfl ?_
  refine v_rng fun w4 => ?_
  have p5 : i6 (g 64 x1.toNat) := rL w4 (q := x1.toNat) (al 64 rfl hn) (wk64 dy) rfl rfl
  refine v_lmul 9 rfl ?_
  refine v_aload_n 10 0 rfl rfl rfl ?_
  refine v_gK 11 rfl fl12_44_11.r (al 53 rfl hn) (wk53 dy) (by decide) rfl (r := 65) (wc53_14 dy) ?_
  refine v_iload_n 12 1 rfl rfl rfl ?_
  refine v_la (N := 60) 13 rfl (al 65 rfl hn) (wk65 dy) (wn65 dy) (by decide) c1 (y := g 65 x1.toNat) rfl ?_
  refine v_rng fun w6 => ?_
  have p7 : i6 (g 65 x1.toNat) := rL w6 (q := x1.toNat) (al 65 rfl hn) (wk65 dy) rfl rfl
  have c8 := h.1
  have h := h.2
  have c9 := h.1
  have h := h.2
  refine v_lrem 14 rfl c8 p7 c9 ?_
  refine v_lconst (v := 0) 15 rfl (by decide) ?_
  have c10 := h.1
  have h := h.2
  refine v_lif_ne 16 rfl rfl (tgt := 30) rfl c10 (by decide) (fun q11 => ?_) (fun q11 => ?_)
  · have h := h.1 q11
    refine v_iconst 20 rfl ?_
    exact v_ret (v := some (I_ 0)) 21 rfl (Nat.zero_le _) (Nat.zero_le _) (Or.inl rfl) rfl h
  · have h := h.2 q11
    refine v_iconst 18 rfl ?_
    refine v_goto 19 rfl (tgt := 31) rfl ?_
    exact v_ret (v := some (I_ 1)) 21 rfl (Nat.zero_le _) (Nat.zero_le _) (Or.inr rfl) rfl h
theorem wX12_isWhole {d n : Nat} {dy : Nat → Shp} {g : Hp} {P : Pst} {x1 : Int} (hn : 100 ≤ n) (h : (0 ≤ x1 ∧ x1 < 60) ∧ (i6 ((g 59 x1.toNat) * (g 64 x1.toNat))) ∧ (g 65 x1.toNat ≠ 0) ∧ (i6 (((g 59 x1.toNat) * (g 64 x1.toNat)).tmod (g 65 x1.toNat))) ∧ (((((g 59 x1.toNat) * (g 64 x1.toNat)).tmod (g 65 x1.toNat)) ≠ 0) → P (some (I_ 0)) n (W0 dy) g) ∧ (((((g 59 x1.toNat) * (g 64 x1.toNat)).tmod (g 65 x1.toNat)) = 0) → P (some (I_ 1)) n (W0 dy) g)) : Runs miX12_isWhole d [.ref 53, I_ x1] n (W0 dy) g P := Runs.of rfl rfl deX12_isWhole (Nat.le_of_ble_eq_true rfl) (bX12_isWhole_0 hn h)
set_option maxHeartbeats 8000000 in
set_option maxRecDepth 4000 in
theorem bX12_arm_0 {d n : Nat} {dy : Nat → Shp} {g : Hp} {P : Pst} {x1 : Int} {x2 : Int} (hn : 100 ≤ n) (h : (0 ≤ x1 ∧ x1 < 60) ∧ (i6 ((g 59 x1.toNat) * (g 64 x1.toNat))) ∧ (g 65 x1.toNat ≠ 0) ∧ ∀ y10 : Int, y10 = ((g 59 x1.toNat) * (g 64 x1.toNat)).tdiv (g 65 x1.toNat) → (i3 x2) ∧ ((x2 ≠ 0) → P (some (I_ ((g 59 x1.toNat) - y10))) n (W0 dy) g) ∧ ((x2 = 0) → P (some (I_ y10)) n (W0 dy) g)) : V miX12_arm d 0 [(0, .ref 53), (1, I_ x1), (2, I_ x2)] [] n (W0 dy) g 0 0 P := by
  refine v_aload_n 0 0 rfl rfl rfl ?_
  refine v_gK 1 rfl fl12_26_11.r (al 53 rfl hn) (wk53 dy) (by decide) rfl (r := 59) (wc53_8 dy) ?_
  refine v_iload_n 2 1 rfl rfl rfl ?_
  have c1 := h.1
  have h := h.2
  refine v_ia (N := 60) 3 rfl (al 59 rfl hn) (wk59 dy) (wn59 dy) (by decide) c1 (y := g 59 x1.toNat) rfl ?_
  refine v_rng fun w2 => ?_
  have p3 : i3 (g 59 x1.toNat) := rI w2 (q := x1.toNat) (al 59 rfl hn) (wk59 dy) rfl rfl
  refine v_i2l 4 rfl p3 ?_
  refine v_aload_n 5 0 rfl rfl rfl ?_
  refine v_gK 6 rfl fl12_41_11.r (al 53 rfl hn) (wk53 dy) (by decide) rfl (r := 64) (wc53_13 dy) ?_
  refine v_iload_n 7 1 rfl rfl rfl ?_
  refine v_la (N := 60) 8 rfl (al 64 rfl hn) (wk64 dy) (wn64 dy) (by decide) c1 (y := g 64 x1.toNat) rfl ?_
  refine v_rng fun w4 => ?_
  have p5 : i6 (g 64 x1.toNat) := rL w4 (q := x1.toNat) (al 64 rfl hn) (wk64 dy) rfl rfl
  refine v_lmul 9 rfl ?_
  refine v_aload_n 10 0 rfl rfl rfl ?_
  refine v_gK 11 rfl fl12_44_11.r (al 53 rfl hn) (wk53 dy) (by decide) rfl (r := 65) (wc53_14 dy) ?_
  refine v_iload_n 12 1 rfl rfl rfl ?_
  refine v_la (N := 60) 13 rfl (al 65 rfl hn) (wk65 dy) (wn65 dy) (by decide) c1 (y := g 65 x1.toNat) rfl ?_
  refine v_rng fun w6 => ?_
  have p7 : i6 (g 65 x1.toNat) := rL w6 (q := x1.toNat) (al 65 rfl hn) (wk65 dy) rfl rfl
  have c8 := h.1
  have h := h.2
  have c9 := h.1
  have h := h.2
  refine v_ldiv 14 rfl c8 p7 c9 ?_
  refine v_l2i 15 rfl ?_
  refine v_nmI (fun y10 ey10 => ?_)
  have h := h y10 ey10
  refine v_istore_n 16 [1, 2, 3, 0] rfl rfl (by decide) rfl ?_
  refine v_iload_n 17 2 rfl rfl rfl ?_
  have c11 := h.1
  have h := h.2
  refine v_if_ne 18 rfl (tgt := 31) rfl c11 (fun q12 => ?_) (fun q12 => ?_)
  · have h := h.1 q12
    refine v_aload_n 21 0 rfl rfl rfl ?_
    refine v_gK 22 rfl fl12_26_11.r (al 53 rfl hn) (wk53 dy) (by decide) rfl (r := 59) (wc53_8 dy) ?_
    refine v_iload_n 23 1 rfl rfl rfl ?_
    refine v_ia (N := 60) 24 rfl (al 59 rfl hn) (wk59 dy) (wn59 dy) (by decide) c1 (y := g 59 x1.toNat) rfl ?_
    refine v_rng fun w13 => ?_
    have p14 : i3 (g 59 x1.toNat) := rI w13 (q := x1.toNat) (al 59 rfl hn) (wk59 dy) rfl rfl
    refine v_iload_n 25 3 rfl rfl rfl ?_
    refine v_isub 26 rfl ?_
    exact v_ret (v := some (I_ ((g 59 x1.toNat) - y10))) 27 rfl (Nat.zero_le _) (Nat.zero_le _) trivial rfl h
  · have h := h.2 q12
    refine v_iload_n 19 3 rfl rfl rfl ?_
    refine v_goto 20 rfl (tgt := 39) rfl ?_
    exact v_ret (v := some (I_ y10)) 27 rfl (Nat.zero_le _) (Nat.zero_le _) trivial rfl h
theorem wX12_arm {d n : Nat} {dy : Nat → Shp} {g : Hp} {P : Pst} {x1 : Int} {x2 : Int} (hn : 100 ≤ n) (h : (0 ≤ x1 ∧ x1 < 60) ∧ (i6 ((g 59 x1.toNat) * (g 64 x1.toNat))) ∧ (g 65 x1.toNat ≠ 0) ∧ ∀ y10 : Int, y10 = ((g 59 x1.toNat) * (g 64 x1.toNat)).tdiv (g 65 x1.toNat) → (i3 x2) ∧ ((x2 ≠ 0) → P (some (I_ ((g 59 x1.toNat) - y10))) n (W0 dy) g) ∧ ((x2 = 0) → P (some (I_ y10)) n (W0 dy) g)) : Runs miX12_arm d [.ref 53, I_ x1, I_ x2] n (W0 dy) g P := Runs.of rfl rfl deX12_arm (Nat.le_of_ble_eq_true rfl) (bX12_arm_0 hn h)
theorem fl12_287_11 : FL RX12 287 11 32 false .boolean := ⟨RX12, TX12, 58, "MobileMakerModel", rfl, rfl, by decide, kf11, tbG_in (List.mem_append_right _ (List.mem_of_getElem? (i := 1159) (by decide +kernel))) rfl, Or.inl rfl, rfl, by decide +kernel, ⟨tyX12, tyX12_ok⟩, nmX12, fun h => by cases h⟩
theorem fl12_291_11 : FL RX12 291 11 33 false .int := ⟨RX12, TX12, 58, "MobileMakerModel", rfl, rfl, by decide, kf11, tbG_in (List.mem_append_right _ (List.mem_of_getElem? (i := 1160) (by decide +kernel))) rfl, Or.inl rfl, rfl, by decide +kernel, ⟨tyX12, tyX12_ok⟩, nmX12, fun h => by cases h⟩
theorem fl12_294_11 : FL RX12 294 11 34 false .int := ⟨RX12, TX12, 58, "MobileMakerModel", rfl, rfl, by decide, kf11, tbG_in (List.mem_append_right _ (List.mem_of_getElem? (i := 1161) (by decide +kernel))) rfl, Or.inl rfl, rfl, by decide +kernel, ⟨tyX12, tyX12_ok⟩, nmX12, fun h => by cases h⟩
theorem lm12_193_arms : LkM miX12_arms 193 Lib.Math.max.name Lib.Math.max.code 2 .int := ⟨tbG_in (List.mem_append_right _ (List.mem_of_getElem? (i := 1380) (by decide +kernel))) rfl, tbG_in (List.mem_append_right _ (List.mem_of_getElem? (i := 536) (by decide +kernel))) rfl, tbG_in (List.mem_append_right _ (List.mem_of_getElem? (i := 15) (by decide +kernel))) rfl, tbG_in (List.mem_append_right _ (List.mem_of_getElem? (i := 537) (by decide +kernel))) rfl⟩
theorem lv12_300_arms_11 : LkV miX12_arms miX12_arm 300 2 11 := ⟨⟨⟨tbG_in (List.mem_append_right _ (List.mem_of_getElem? (i := 1537) (by decide +kernel))) rfl, tbG_in (List.mem_append_right _ (List.mem_of_getElem? (i := 9) (by decide +kernel))) rfl, tbG_in (List.mem_append_right _ (List.mem_of_getElem? (i := 1534) (by decide +kernel))) rfl⟩, ⟨by decide +kernel, by decide +kernel, by decide +kernel⟩, by decide⟩, tbG_in (List.mem_append_right _ (List.mem_of_getElem? (i := 1536) (by decide +kernel))) rfl, RX12, TX12, 58, rfl, tbG_in (List.mem_append_left _ (List.mem_of_getElem? (i := 76) (by decide +kernel))) rfl⟩
theorem lv12_297_arms_11 : LkV miX12_arms miX12_isWhole 297 1 11 := ⟨⟨⟨tbG_in (List.mem_append_right _ (List.mem_of_getElem? (i := 1533) (by decide +kernel))) rfl, tbG_in (List.mem_append_right _ (List.mem_of_getElem? (i := 9) (by decide +kernel))) rfl, tbG_in (List.mem_append_right _ (List.mem_of_getElem? (i := 1530) (by decide +kernel))) rfl⟩, ⟨by decide +kernel, by decide +kernel, by decide +kernel⟩, by decide⟩, tbG_in (List.mem_append_right _ (List.mem_of_getElem? (i := 1532) (by decide +kernel))) rfl, RX12, TX12, 58, rfl, tbG_in (List.mem_append_left _ (List.mem_of_getElem? (i := 75) (by decide +kernel))) rfl⟩
set_option maxHeartbeats 8000000 in
set_option maxRecDepth 4000 in
theorem bX12_arms_0 {d n : Nat} {dy : Nat → Shp} {g : Hp} {P : Pst} {x1 : Int} {x2 : Int} {x3 : Int} (hn : 100 ≤ n) (h : V miX12_arms (d + 1) 18 [(0, .ref 53), (1, I_ x1), (2, I_ x2), (3, I_ x3), (4, I_ x1)] [] n (W0 dy) (up2 (up2 (up2 g 53 32 1) 53 33 0) 53 34 0) 0 0 P) : V miX12_arms (d + 1) 0 [(0, .ref 53), (1, I_ x1), (2, I_ x2), (3, I_ x3)] [] n (W0 dy) g 0 0 P := by
  refine v_aload_n 0 0 rfl rfl rfl ?_
  refine v_iconst 1 rfl ?_
  refine v_putZ 2 rfl fl12_287_11 (al 53 rfl hn) (wk53 dy) (by decide) rfl (wc53_32 dy) (Or.inr rfl) ?_
  refine v_aload_n 3 0 rfl rfl rfl ?_
  refine v_iconst 4 rfl ?_
  refine v_putI 5 rfl fl12_291_11 (al 53 rfl hn) (wk53 dy) (by decide) rfl (wc53_33 dy) (by decide) ?_
  refine v_aload_n 6 0 rfl rfl rfl ?_
  refine v_iconst 7 rfl ?_
  refine v_putI 8 rfl fl12_294_11 (al 53 rfl hn) (wk53 dy) (by decide) rfl (wc53_34 dy) (by decide) ?_
  refine v_iload_n 9 1 rfl rfl rfl ?_
  refine v_istore 10 [1, 2, 3, 4, 0] rfl (by decide) rfl ?_
  exact h
set_option maxHeartbeats 8000000 in
set_option maxRecDepth 4000 in
theorem bX12_arms_18 {d n : Nat} {dy : Nat → Shp} {g : Hp} {P : Pst} {x1 : Int} {x2 : Int} {x3 : Int} {x4 : Int} (hn : 100 ≤ n) (h : (i3 x4) ∧ (i3 x2) ∧ ((x4 = x2) → P none n (W0 dy) g) ∧ ((x4 ≠ x2) → (0 ≤ x4 ∧ x4 < 60) ∧ (((g 60 x4.toNat) ≠ x2) → (((g 53 32) = 0) → Runs miX12_arm d [.ref 53, I_ (g 60 x4.toNat), I_ (g 61 x4.toNat)] n (W0 dy) (up2 g 53 32 0) (fun v n' S' g' => V miX12_arms (d + 1) 81 [(0, .ref 53), (1, I_ x1), (2, I_ x2), (3, I_ x3), (4, I_ x4), (5, I_ (g 60 x4.toNat))] (v.toList ++ []) n' S' g' 0 0 P)) ∧ (((g 53 32) ≠ 0) → Runs miX12_isWhole d [.ref 53, I_ (g 60 x4.toNat)] n (W0 dy) g (fun v n' S' g' => V miX12_arms (d + 1) 57 [(0, .ref 53), (1, I_ x1), (2, I_ x2), (3, I_ x3), (4, I_ x4), (5, I_ (g 60 x4.toNat))] (v.toList ++ [.ref 53]) n' S' g' 0 0 P))) ∧ (((g 60 x4.toNat) = x2) → (i3 x3) ∧ ((x3 = 0) → V miX12_arms (d + 1) 18 [(0, .ref 53), (1, I_ x1), (2, I_ x2), (3, I_ x3), (4, I_ (g 60 x4.toNat))] [] n (W0 dy) g 0 0 P) ∧ ((x3 ≠ 0) → (((g 53 32) = 0) → Runs miX12_arm d [.ref 53, I_ (g 60 x4.toNat), I_ (g 61 x4.toNat)] n (W0 dy) (up2 g 53 32 0) (fun v n' S' g' => V miX12_arms (d + 1) 81 [(0, .ref 53), (1, I_ x1), (2, I_ x2), (3, I_ x3), (4, I_ x4), (5, I_ (g 60 x4.toNat))] (v.toList ++ []) n' S' g' 0 0 P)) ∧ (((g 53 32) ≠ 0) → Runs miX12_isWhole d [.ref 53, I_ (g 60 x4.toNat)] n (W0 dy) g (fun v n' S' g' => V miX12_arms (d + 1) 57 [(0, .ref 53), (1, I_ x1), (2, I_ x2), (3, I_ x3), (4, I_ x4), (5, I_ (g 60 x4.toNat))] (v.toList ++ [.ref 53]) n' S' g' 0 0 P)))))) : V miX12_arms (d + 1) 18 [(0, .ref 53), (1, I_ x1), (2, I_ x2), (3, I_ x3), (4, I_ x4)] [] n (W0 dy) g 0 0 P := by
  refine v_iload 11 4 rfl rfl ?_
  refine v_iload_n 12 2 rfl rfl rfl ?_
  have c1 := h.1
  have h := h.2
  have c2 := h.1
  have h := h.2
  refine v_icmp_eq 13 rfl (tgt := 114) rfl c1 c2 (fun q3 => ?_) (fun q3 => ?_)
  · have h := h.1 q3
    exact v_ret (v := none) 59 rfl (Nat.zero_le _) (Nat.zero_le _) trivial rfl h
  · have h := h.2 q3
    refine v_aload_n 14 0 rfl rfl rfl ?_
    refine v_gK 15 rfl fl12_29_11.r (al 53 rfl hn) (wk53 dy) (by decide) rfl (r := 60) (wc53_9 dy) ?_
    refine v_iload 16 4 rfl rfl ?_
    have c4 := h.1
    have h := h.2
    refine v_ia (N := 60) 17 rfl (al 60 rfl hn) (wk60 dy) (wn60 dy) (by decide) c4 (y := g 60 x4.toNat) rfl ?_
    refine v_rng fun w5 => ?_
    have p6 : i3 (g 60 x4.toNat) := rI w5 (q := x4.toNat) (al 60 rfl hn) (wk60 dy) rfl rfl
    refine v_istore 18 [1, 2, 3, 4, 5, 0] rfl (by decide) rfl ?_
    refine v_iload 19 5 rfl rfl ?_
    refine v_iload_n 20 2 rfl rfl rfl ?_
    refine v_icmp_ne 21 rfl (tgt := 43) rfl p6 c2 (fun q7 => ?_) (fun q7 => ?_)
    · have h := h.1 q7
      refine v_aload_n 24 0 rfl rfl rfl ?_
      refine v_aload_n 25 0 rfl rfl rfl ?_
      refine v_gI 26 rfl fl12_287_11.r (al 53 rfl hn) (wk53 dy) (by decide) rfl (wc53_32 dy) (x := g 53 32) rfl ?_
      refine v_rng fun w8 => ?_
      have p9 : i3 (g 53 32) := rI w8 (q := 32) (al 53 rfl hn) (wk53 dy) rfl rfl
      refine v_if_eq 27 rfl (tgt := 64) rfl p9 (fun q10 => ?_) (fun q10 => ?_)
      · have h := h.1 q10
        refine v_iconst 34 rfl ?_
        refine v_putZ 35 rfl fl12_287_11 (al 53 rfl hn) (wk53 dy) (by decide) rfl (wc53_32 dy) (Or.inl rfl) ?_
        refine v_aload_n 36 0 rfl rfl rfl ?_
        refine v_iload 37 5 rfl rfl ?_
        refine v_aload_n 38 0 rfl rfl rfl ?_
        refine v_gK 39 rfl fl12_32_11.r (al 53 rfl hn) (wk53 dy) (by decide) rfl (r := 61) (wc53_10 dy) ?_
        refine v_iload 40 4 rfl rfl ?_
        refine v_ia (N := 60) 41 rfl (al 61 rfl hn) (wk61 dy) (wn61 dy) (by decide) c4 (y := g 61 x4.toNat) rfl ?_
        refine v_rng fun w11 => ?_
        have p12 : i3 (g 61 x4.toNat) := rI w11 (q := x4.toNat) (al 61 rfl hn) (wk61 dy) rfl rfl
        refine v_callV (st := []) [I_ (g 60 x4.toNat), I_ (g 61 x4.toNat)] 42 rfl lv12_300_arms_11 (al 53 rfl hn) (wk53 dy) (by decide) rfl (Nat.le_refl _) (Nat.le_refl _) ?_
        exact h
      · have h := h.2 q10
        refine v_aload_n 28 0 rfl rfl rfl ?_
        refine v_iload 29 5 rfl rfl ?_
        refine v_callV (st := [.ref 53]) [I_ (g 60 x4.toNat)] 30 rfl lv12_297_arms_11 (al 53 rfl hn) (wk53 dy) (by decide) rfl (Nat.le_refl _) (Nat.le_refl _) ?_
        exact h
    · have h := h.2 q7
      refine v_iload_n 22 3 rfl rfl rfl ?_
      have c13 := h.1
      have h := h.2
      refine v_if_eq 23 rfl (tgt := 107) rfl c13 (fun q14 => ?_) (fun q14 => ?_)
      · have h := h.1 q14
        refine v_iload 56 5 rfl rfl ?_
        refine v_istore 57 [1, 2, 3, 4, 0, 5] rfl (by decide) rfl ?_
        refine v_goto 58 rfl (tgt := 18) rfl ?_
        refine v_loc [0, 1, 2, 3, 4] rfl ?_
        exact h
      · have h := h.2 q14
        refine v_aload_n 24 0 rfl rfl rfl ?_
        refine v_aload_n 25 0 rfl rfl rfl ?_
        refine v_gI 26 rfl fl12_287_11.r (al 53 rfl hn) (wk53 dy) (by decide) rfl (wc53_32 dy) (x := g 53 32) rfl ?_
        refine v_rng fun w15 => ?_
        have p16 : i3 (g 53 32) := rI w15 (q := 32) (al 53 rfl hn) (wk53 dy) rfl rfl
        refine v_if_eq 27 rfl (tgt := 64) rfl p16 (fun q17 => ?_) (fun q17 => ?_)
        · have h := h.1 q17
          refine v_iconst 34 rfl ?_
          refine v_putZ 35 rfl fl12_287_11 (al 53 rfl hn) (wk53 dy) (by decide) rfl (wc53_32 dy) (Or.inl rfl) ?_
          refine v_aload_n 36 0 rfl rfl rfl ?_
          refine v_iload 37 5 rfl rfl ?_
          refine v_aload_n 38 0 rfl rfl rfl ?_
          refine v_gK 39 rfl fl12_32_11.r (al 53 rfl hn) (wk53 dy) (by decide) rfl (r := 61) (wc53_10 dy) ?_
          refine v_iload 40 4 rfl rfl ?_
          refine v_ia (N := 60) 41 rfl (al 61 rfl hn) (wk61 dy) (wn61 dy) (by decide) c4 (y := g 61 x4.toNat) rfl ?_
          refine v_rng fun w18 => ?_
          have p19 : i3 (g 61 x4.toNat) := rI w18 (q := x4.toNat) (al 61 rfl hn) (wk61 dy) rfl rfl
          refine v_callV (st := []) [I_ (g 60 x4.toNat), I_ (g 61 x4.toNat)] 42 rfl lv12_300_arms_11 (al 53 rfl hn) (wk53 dy) (by decide) rfl (Nat.le_refl _) (Nat.le_refl _) ?_
          exact h
        · have h := h.2 q17
          refine v_aload_n 28 0 rfl rfl rfl ?_
          refine v_iload 29 5 rfl rfl ?_
          refine v_callV (st := [.ref 53]) [I_ (g 60 x4.toNat)] 30 rfl lv12_297_arms_11 (al 53 rfl hn) (wk53 dy) (by decide) rfl (Nat.le_refl _) (Nat.le_refl _) ?_
          exact h
set_option maxHeartbeats 8000000 in
set_option maxRecDepth 4000 in
theorem bX12_arms_57 {d n : Nat} {dy : Nat → Shp} {g : Hp} {P : Pst} {x1 : Int} {x2 : Int} {x3 : Int} {x4 : Int} {x5 : Int} {xs1 : Int} (hn : 100 ≤ n) (h : (i3 xs1) ∧ ((xs1 = 0) → (0 ≤ x4 ∧ x4 < 60) ∧ Runs miX12_arm d [.ref 53, I_ x5, I_ (g 61 x4.toNat)] n (W0 dy) (up2 g 53 32 0) (fun v n' S' g' => V miX12_arms (d + 1) 81 [(0, .ref 53), (1, I_ x1), (2, I_ x2), (3, I_ x3), (4, I_ x4), (5, I_ x5)] (v.toList ++ []) n' S' g' 0 0 P)) ∧ ((xs1 ≠ 0) → (0 ≤ x4 ∧ x4 < 60) ∧ Runs miX12_arm d [.ref 53, I_ x5, I_ (g 61 x4.toNat)] n (W0 dy) (up2 g 53 32 1) (fun v n' S' g' => V miX12_arms (d + 1) 81 [(0, .ref 53), (1, I_ x1), (2, I_ x2), (3, I_ x3), (4, I_ x4), (5, I_ x5)] (v.toList ++ []) n' S' g' 0 0 P))) : V miX12_arms (d + 1) 57 [(0, .ref 53), (1, I_ x1), (2, I_ x2), (3, I_ x3), (4, I_ x4), (5, I_ x5)] [I_ xs1, .ref 53] n (W0 dy) g 0 0 P := by
  have c1 := h.1
  have h := h.2
  refine v_if_eq 31 rfl (tgt := 64) rfl c1 (fun q2 => ?_) (fun q2 => ?_)
  · have h := h.1 q2
    refine v_iconst 34 rfl ?_
    refine v_putZ 35 rfl fl12_287_11 (al 53 rfl hn) (wk53 dy) (by decide) rfl (wc53_32 dy) (Or.inl rfl) ?_
    refine v_aload_n 36 0 rfl rfl rfl ?_
    refine v_iload 37 5 rfl rfl ?_
    refine v_aload_n 38 0 rfl rfl rfl ?_
    refine v_gK 39 rfl fl12_32_11.r (al 53 rfl hn) (wk53 dy) (by decide) rfl (r := 61) (wc53_10 dy) ?_
    refine v_iload 40 4 rfl rfl ?_
    have c3 := h.1
    have h := h.2
    refine v_ia (N := 60) 41 rfl (al 61 rfl hn) (wk61 dy) (wn61 dy) (by decide) c3 (y := g 61 x4.toNat) rfl ?_
    refine v_rng fun w4 => ?_
    have p5 : i3 (g 61 x4.toNat) := rI w4 (q := x4.toNat) (al 61 rfl hn) (wk61 dy) rfl rfl
    refine v_callV (st := []) [I_ x5, I_ (g 61 x4.toNat)] 42 rfl lv12_300_arms_11 (al 53 rfl hn) (wk53 dy) (by decide) rfl (Nat.le_refl _) (Nat.le_refl _) ?_
    exact h
  · have h := h.2 q2
    refine v_iconst 32 rfl ?_
    refine v_goto 33 rfl (tgt := 65) rfl ?_
    refine v_putZ 35 rfl fl12_287_11 (al 53 rfl hn) (wk53 dy) (by decide) rfl (wc53_32 dy) (Or.inr rfl) ?_
    refine v_aload_n 36 0 rfl rfl rfl ?_
    refine v_iload 37 5 rfl rfl ?_
    refine v_aload_n 38 0 rfl rfl rfl ?_
    refine v_gK 39 rfl fl12_32_11.r (al 53 rfl hn) (wk53 dy) (by decide) rfl (r := 61) (wc53_10 dy) ?_
    refine v_iload 40 4 rfl rfl ?_
    have c6 := h.1
    have h := h.2
    refine v_ia (N := 60) 41 rfl (al 61 rfl hn) (wk61 dy) (wn61 dy) (by decide) c6 (y := g 61 x4.toNat) rfl ?_
    refine v_rng fun w7 => ?_
    have p8 : i3 (g 61 x4.toNat) := rI w7 (q := x4.toNat) (al 61 rfl hn) (wk61 dy) rfl rfl
    refine v_callV (st := []) [I_ x5, I_ (g 61 x4.toNat)] 42 rfl lv12_300_arms_11 (al 53 rfl hn) (wk53 dy) (by decide) rfl (Nat.le_refl _) (Nat.le_refl _) ?_
    exact h
set_option maxHeartbeats 8000000 in
set_option maxRecDepth 4000 in
theorem bX12_arms_81 {d n : Nat} {dy : Nat → Shp} {g : Hp} {P : Pst} {x1 : Int} {x2 : Int} {x3 : Int} {x4 : Int} {x5 : Int} {xs0 : Int} (hn : 100 ≤ n) (h : (i3 ((g 53 33) + xs0)) ∧ (i3 xs0) ∧ V miX12_arms (d + 1) 18 [(0, .ref 53), (1, I_ x1), (2, I_ x2), (3, I_ x3), (4, I_ x5)] [] n (W0 dy) (up2 (up2 g 53 33 ((g 53 33) + xs0)) 53 34 (max (g 53 34) xs0)) 0 0 P) : V miX12_arms (d + 1) 81 [(0, .ref 53), (1, I_ x1), (2, I_ x2), (3, I_ x3), (4, I_ x4), (5, I_ x5)] [I_ xs0] n (W0 dy) g 0 0 P := by
  refine v_istore 43 [1, 2, 3, 4, 5, 6, 0] rfl (by decide) rfl ?_
  refine v_aload_n 44 0 rfl rfl rfl ?_
  refine v_dup 45 rfl (by intro h; cases h) ?_
  refine v_gI 46 rfl fl12_291_11.r (al 53 rfl hn) (wk53 dy) (by decide) rfl (wc53_33 dy) (x := g 53 33) rfl ?_
  refine v_rng fun w1 => ?_
  have p2 : i3 (g 53 33) := rI w1 (q := 33) (al 53 rfl hn) (wk53 dy) rfl rfl
  refine v_iload 47 6 rfl rfl ?_
  refine v_iadd 48 rfl ?_
  have c3 := h.1
  have h := h.2
  refine v_putI 49 rfl fl12_291_11 (al 53 rfl hn) (wk53 dy) (by decide) rfl (wc53_33 dy) c3 ?_
  refine v_aload_n 50 0 rfl rfl rfl ?_
  refine v_aload_n 51 0 rfl rfl rfl ?_
  refine v_gI 52 rfl fl12_294_11.r (al 53 rfl hn) (wk53 dy) (by decide) rfl (wc53_34 dy) (x := g 53 34) rfl ?_
  refine v_rng fun w4 => ?_
  have p5 : i3 (g 53 34) := rI w4 (q := 34) (al 53 rfl hn) (wk53 dy) rfl rfl
  refine v_iload 53 6 rfl rfl ?_
  have c6 := h.1
  have h := h.2
  refine v_mmax (st := [.ref 53]) 54 rfl lm12_193_arms rfl (Nat.zero_le _) (Nat.zero_le _) p5 c6 ?_
  refine v_putI 55 rfl fl12_294_11 (al 53 rfl hn) (wk53 dy) (by decide) rfl (wc53_34 dy) (max_i3 p5 c6) ?_
  refine v_iload 56 5 rfl rfl ?_
  refine v_istore 57 [1, 2, 3, 4, 0, 5, 6] rfl (by decide) rfl ?_
  refine v_goto 58 rfl (tgt := 18) rfl ?_
  refine v_loc [0, 1, 2, 3, 4] rfl ?_
  exact h
theorem wX12_arms {d n : Nat} {dy : Nat → Shp} {g : Hp} {P : Pst} {x1 : Int} {x2 : Int} {x3 : Int} (hn : 100 ≤ n) (h : V miX12_arms (d + 1) 18 [(0, .ref 53), (1, I_ x1), (2, I_ x2), (3, I_ x3), (4, I_ x1)] [] n (W0 dy) (up2 (up2 (up2 g 53 32 1) 53 33 0) 53 34 0) 0 0 P) : Runs miX12_arms (d + 1) [.ref 53, I_ x1, I_ x2, I_ x3] n (W0 dy) g P := Runs.of rfl rfl deX12_arms (Nat.le_of_ble_eq_true rfl) (bX12_arms_0 hn h)
theorem lm12_193_armsLeast : LkM miX12_armsLeast 193 Lib.Math.max.name Lib.Math.max.code 2 .int := ⟨tbG_in (List.mem_append_right _ (List.mem_of_getElem? (i := 1380) (by decide +kernel))) rfl, tbG_in (List.mem_append_right _ (List.mem_of_getElem? (i := 536) (by decide +kernel))) rfl, tbG_in (List.mem_append_right _ (List.mem_of_getElem? (i := 15) (by decide +kernel))) rfl, tbG_in (List.mem_append_right _ (List.mem_of_getElem? (i := 537) (by decide +kernel))) rfl⟩
set_option maxHeartbeats 8000000 in
set_option maxRecDepth 4000 in
theorem bX12_armsLeast_0 {d n : Nat} {dy : Nat → Shp} {g : Hp} {P : Pst}  (hn : 100 ≤ n) (h : (i3 ((2 * (g 53 34)) - (g 53 33))) ∧ P (some (I_ (max 0 ((2 * (g 53 34)) - (g 53 33))))) n (W0 dy) g) : V miX12_armsLeast (d + 1) 0 [(0, .ref 53)] [] n (W0 dy) g 0 0 P := by
  refine v_iconst 0 rfl ?_
  refine v_iconst 1 rfl ?_
  refine v_aload_n 2 0 rfl rfl rfl ?_
  refine v_gI 3 rfl fl12_294_11.r (al 53 rfl hn) (wk53 dy) (by decide) rfl (wc53_34 dy) (x := g 53 34) rfl ?_
  refine v_rng fun w1 => ?_
  have p2 : i3 (g 53 34) := rI w1 (q := 34) (al 53 rfl hn) (wk53 dy) rfl rfl
  refine v_imul 4 rfl ?_
  refine v_aload_n 5 0 rfl rfl rfl ?_
  refine v_gI 6 rfl fl12_291_11.r (al 53 rfl hn) (wk53 dy) (by decide) rfl (wc53_33 dy) (x := g 53 33) rfl ?_
  refine v_rng fun w3 => ?_
  have p4 : i3 (g 53 33) := rI w3 (q := 33) (al 53 rfl hn) (wk53 dy) rfl rfl
  refine v_isub 7 rfl ?_
  have c5 := h.1
  have h := h.2
  refine v_mmax (st := []) 8 rfl lm12_193_armsLeast rfl (Nat.zero_le _) (Nat.zero_le _) (by decide) c5 ?_
  exact v_ret (v := some (I_ (max 0 ((2 * (g 53 34)) - (g 53 33))))) 9 rfl (Nat.zero_le _) (Nat.zero_le _) trivial rfl h
theorem wX12_armsLeast {d n : Nat} {dy : Nat → Shp} {g : Hp} {P : Pst}  (hn : 100 ≤ n) (h : (i3 ((2 * (g 53 34)) - (g 53 33))) ∧ P (some (I_ (max 0 ((2 * (g 53 34)) - (g 53 33))))) n (W0 dy) g) : Runs miX12_armsLeast (d + 1) [.ref 53] n (W0 dy) g P := Runs.of rfl rfl deX12_armsLeast (Nat.le_of_ble_eq_true rfl) (bX12_armsLeast_0 hn h)
theorem lv12_222_reach_11 : LkV miX12_reach miX12_isPart 222 1 11 := ⟨⟨⟨tbG_in (List.mem_append_right _ (List.mem_of_getElem? (i := 1400) (by decide +kernel))) rfl, tbG_in (List.mem_append_right _ (List.mem_of_getElem? (i := 9) (by decide +kernel))) rfl, tbG_in (List.mem_append_right _ (List.mem_of_getElem? (i := 1397) (by decide +kernel))) rfl⟩, ⟨by decide +kernel, by decide +kernel, by decide +kernel⟩, by decide⟩, tbG_in (List.mem_append_right _ (List.mem_of_getElem? (i := 1399) (by decide +kernel))) rfl, RX12, TX12, 58, rfl, tbG_in (List.mem_append_left _ (List.mem_of_getElem? (i := 56) (by decide +kernel))) rfl⟩
theorem lv12_174_reach_11 : LkV miX12_reach miX12_refuse 174 1 11 := ⟨⟨⟨tbG_in (List.mem_append_right _ (List.mem_of_getElem? (i := 1351) (by decide +kernel))) rfl, tbG_in (List.mem_append_right _ (List.mem_of_getElem? (i := 9) (by decide +kernel))) rfl, tbG_in (List.mem_append_right _ (List.mem_of_getElem? (i := 1348) (by decide +kernel))) rfl⟩, ⟨by decide +kernel, by decide +kernel, by decide +kernel⟩, by decide⟩, tbG_in (List.mem_append_right _ (List.mem_of_getElem? (i := 1350) (by decide +kernel))) rfl, RX12, TX12, 58, rfl, tbG_in (List.mem_append_left _ (List.mem_of_getElem? (i := 50) (by decide +kernel))) rfl⟩
theorem lv12_237_reach_11 : LkV miX12_reach miX12_isRod 237 1 11 := ⟨⟨⟨tbG_in (List.mem_append_right _ (List.mem_of_getElem? (i := 1428) (by decide +kernel))) rfl, tbG_in (List.mem_append_right _ (List.mem_of_getElem? (i := 9) (by decide +kernel))) rfl, tbG_in (List.mem_append_right _ (List.mem_of_getElem? (i := 1425) (by decide +kernel))) rfl⟩, ⟨by decide +kernel, by decide +kernel, by decide +kernel⟩, by decide⟩, tbG_in (List.mem_append_right _ (List.mem_of_getElem? (i := 1427) (by decide +kernel))) rfl, RX12, TX12, 58, rfl, tbG_in (List.mem_append_left _ (List.mem_of_getElem? (i := 60) (by decide +kernel))) rfl⟩
theorem lv12_243_reach_11 : LkV miX12_reach miX12_isAbove 243 2 11 := ⟨⟨⟨tbG_in (List.mem_append_right _ (List.mem_of_getElem? (i := 1436) (by decide +kernel))) rfl, tbG_in (List.mem_append_right _ (List.mem_of_getElem? (i := 9) (by decide +kernel))) rfl, tbG_in (List.mem_append_right _ (List.mem_of_getElem? (i := 1433) (by decide +kernel))) rfl⟩, ⟨by decide +kernel, by decide +kernel, by decide +kernel⟩, by decide⟩, tbG_in (List.mem_append_right _ (List.mem_of_getElem? (i := 1435) (by decide +kernel))) rfl, RX12, TX12, 58, rfl, tbG_in (List.mem_append_left _ (List.mem_of_getElem? (i := 61) (by decide +kernel))) rfl⟩
theorem lv12_303_reach_11 : LkV miX12_reach miX12_arms 303 3 11 := ⟨⟨⟨tbG_in (List.mem_append_right _ (List.mem_of_getElem? (i := 1529) (by decide +kernel))) rfl, tbG_in (List.mem_append_right _ (List.mem_of_getElem? (i := 9) (by decide +kernel))) rfl, tbG_in (List.mem_append_right _ (List.mem_of_getElem? (i := 1526) (by decide +kernel))) rfl⟩, ⟨by decide +kernel, by decide +kernel, by decide +kernel⟩, by decide⟩, tbG_in (List.mem_append_right _ (List.mem_of_getElem? (i := 1528) (by decide +kernel))) rfl, RX12, TX12, 58, rfl, tbG_in (List.mem_append_left _ (List.mem_of_getElem? (i := 74) (by decide +kernel))) rfl⟩
theorem lv12_307_reach_11 : LkV miX12_reach miX12_armsLeast 307 0 11 := ⟨⟨⟨tbG_in (List.mem_append_right _ (List.mem_of_getElem? (i := 1541) (by decide +kernel))) rfl, tbG_in (List.mem_append_right _ (List.mem_of_getElem? (i := 9) (by decide +kernel))) rfl, tbG_in (List.mem_append_right _ (List.mem_of_getElem? (i := 1538) (by decide +kernel))) rfl⟩, ⟨by decide +kernel, by decide +kernel, by decide +kernel⟩, by decide⟩, tbG_in (List.mem_append_right _ (List.mem_of_getElem? (i := 1540) (by decide +kernel))) rfl, RX12, TX12, 58, rfl, tbG_in (List.mem_append_left _ (List.mem_of_getElem? (i := 77) (by decide +kernel))) rfl⟩
set_option maxHeartbeats 8000000 in
set_option maxRecDepth 4000 in
theorem bX12_reach_0 {d n : Nat} {dy : Nat → Shp} {g : Hp} {P : Pst} {x1 : Int} {x2 : Int} {x3 : Int} (hn : 100 ≤ n) (h : Runs miX12_isPart d [.ref 53, I_ x1] n (W0 dy) (up2 (up2 g 53 1 0) 53 0 0) (fun v n' S' g' => V miX12_reach (d + 1) 15 [(0, .ref 53), (1, I_ x1), (2, I_ x2), (3, I_ x3)] (v.toList ++ []) n' S' g' 0 0 P)) : V miX12_reach (d + 1) 0 [(0, .ref 53), (1, I_ x1), (2, I_ x2), (3, I_ x3)] [] n (W0 dy) g 0 0 P := by
  refine v_aload_n 0 0 rfl rfl rfl ?_
  refine v_iconst 1 rfl ?_
  refine v_putI 2 rfl fl12_148_11 (al 53 rfl hn) (wk53 dy) (by decide) rfl (wc53_1 dy) (by decide) ?_
  refine v_aload_n 3 0 rfl rfl rfl ?_
  refine v_iconst 4 rfl ?_
  refine v_putI 5 rfl fl12_152_11 (al 53 rfl hn) (wk53 dy) (by decide) rfl (wc53_0 dy) (by decide) ?_
  refine v_aload_n 6 0 rfl rfl rfl ?_
  refine v_iload_n 7 1 rfl rfl rfl ?_
  refine v_callV (st := []) [I_ x1] 8 rfl lv12_222_reach_11 (al 53 rfl hn) (wk53 dy) (by decide) rfl (Nat.le_refl _) (Nat.le_refl _) ?_
  exact h
set_option maxHeartbeats 8000000 in
set_option maxRecDepth 4000 in
theorem bX12_reach_15 {d n : Nat} {dy : Nat → Shp} {g : Hp} {P : Pst} {x1 : Int} {x2 : Int} {x3 : Int} {xs0 : Int} (hn : 100 ≤ n) (h : (i3 xs0) ∧ ((xs0 = 0) → Runs miX12_refuse d [.ref 53, I_ 2] n (W0 dy) g (fun v n' S' g' => V miX12_reach (d + 1) 31 [(0, .ref 53), (1, I_ x1), (2, I_ x2), (3, I_ x3)] (v.toList ++ []) n' S' g' 0 0 P)) ∧ ((xs0 ≠ 0) → Runs miX12_isPart d [.ref 53, I_ x2] n (W0 dy) g (fun v n' S' g' => V miX12_reach (d + 1) 23 [(0, .ref 53), (1, I_ x1), (2, I_ x2), (3, I_ x3)] (v.toList ++ []) n' S' g' 0 0 P))) : V miX12_reach (d + 1) 15 [(0, .ref 53), (1, I_ x1), (2, I_ x2), (3, I_ x3)] [I_ xs0] n (W0 dy) g 0 0 P := by
  have c1 := h.1
  have h := h.2
  refine v_if_eq 9 rfl (tgt := 26) rfl c1 (fun q2 => ?_) (fun q2 => ?_)
  · have h := h.1 q2
    refine v_aload_n 14 0 rfl rfl rfl ?_
    refine v_iconst 15 rfl ?_
    refine v_callV (st := []) [I_ 2] 16 rfl lv12_174_reach_11 (al 53 rfl hn) (wk53 dy) (by decide) rfl (Nat.le_refl _) (Nat.le_refl _) ?_
    exact h
  · have h := h.2 q2
    refine v_aload_n 10 0 rfl rfl rfl ?_
    refine v_iload_n 11 2 rfl rfl rfl ?_
    refine v_callV (st := []) [I_ x2] 12 rfl lv12_222_reach_11 (al 53 rfl hn) (wk53 dy) (by decide) rfl (Nat.le_refl _) (Nat.le_refl _) ?_
    exact h
set_option maxHeartbeats 8000000 in
set_option maxRecDepth 4000 in
theorem bX12_reach_23 {d n : Nat} {dy : Nat → Shp} {g : Hp} {P : Pst} {x1 : Int} {x2 : Int} {x3 : Int} {xs0 : Int} (hn : 100 ≤ n) (h : (i3 xs0) ∧ ((xs0 ≠ 0) → Runs miX12_isRod d [.ref 53, I_ x2] n (W0 dy) g (fun v n' S' g' => V miX12_reach (d + 1) 37 [(0, .ref 53), (1, I_ x1), (2, I_ x2), (3, I_ x3)] (v.toList ++ []) n' S' g' 0 0 P)) ∧ ((xs0 = 0) → Runs miX12_refuse d [.ref 53, I_ 2] n (W0 dy) g (fun v n' S' g' => V miX12_reach (d + 1) 31 [(0, .ref 53), (1, I_ x1), (2, I_ x2), (3, I_ x3)] (v.toList ++ []) n' S' g' 0 0 P))) : V miX12_reach (d + 1) 23 [(0, .ref 53), (1, I_ x1), (2, I_ x2), (3, I_ x3)] [I_ xs0] n (W0 dy) g 0 0 P := by
  have c1 := h.1
  have h := h.2
  refine v_if_ne 13 rfl (tgt := 32) rfl c1 (fun q2 => ?_) (fun q2 => ?_)
  · have h := h.1 q2
    refine v_aload_n 18 0 rfl rfl rfl ?_
    refine v_iload_n 19 2 rfl rfl rfl ?_
    refine v_callV (st := []) [I_ x2] 20 rfl lv12_237_reach_11 (al 53 rfl hn) (wk53 dy) (by decide) rfl (Nat.le_refl _) (Nat.le_refl _) ?_
    exact h
  · have h := h.2 q2
    refine v_aload_n 14 0 rfl rfl rfl ?_
    refine v_iconst 15 rfl ?_
    refine v_callV (st := []) [I_ 2] 16 rfl lv12_174_reach_11 (al 53 rfl hn) (wk53 dy) (by decide) rfl (Nat.le_refl _) (Nat.le_refl _) ?_
    exact h
set_option maxHeartbeats 8000000 in
set_option maxRecDepth 4000 in
theorem bX12_reach_31 {d n : Nat} {dy : Nat → Shp} {g : Hp} {P : Pst} {x1 : Int} {x2 : Int} {x3 : Int} {xs0 : Int} (hn : 100 ≤ n) (h : P (some (I_ xs0)) n (W0 dy) g) : V miX12_reach (d + 1) 31 [(0, .ref 53), (1, I_ x1), (2, I_ x2), (3, I_ x3)] [I_ xs0] n (W0 dy) g 0 0 P := by
  exact v_ret (v := some (I_ xs0)) 17 rfl (Nat.zero_le _) (Nat.zero_le _) trivial rfl h
set_option maxHeartbeats 8000000 in
set_option maxRecDepth 4000 in
theorem bX12_reach_37 {d n : Nat} {dy : Nat → Shp} {g : Hp} {P : Pst} {x1 : Int} {x2 : Int} {x3 : Int} {xs0 : Int} (hn : 100 ≤ n) (h : (i3 xs0) ∧ ((xs0 ≠ 0) → (i3 x1) ∧ (i3 x2) ∧ ((x1 = x2) → Runs miX12_refuse d [.ref 53, I_ 8] n (W0 dy) g (fun v n' S' g' => V miX12_reach (d + 1) 66 [(0, .ref 53), (1, I_ x1), (2, I_ x2), (3, I_ x3)] (v.toList ++ []) n' S' g' 0 0 P)) ∧ ((x1 ≠ x2) → Runs miX12_isAbove d [.ref 53, I_ x2, I_ x1] n (W0 dy) g (fun v n' S' g' => V miX12_reach (d + 1) 57 [(0, .ref 53), (1, I_ x1), (2, I_ x2), (3, I_ x3)] (v.toList ++ []) n' S' g' 0 0 P))) ∧ ((xs0 = 0) → Runs miX12_refuse d [.ref 53, I_ 5] n (W0 dy) g (fun v n' S' g' => V miX12_reach (d + 1) 45 [(0, .ref 53), (1, I_ x1), (2, I_ x2), (3, I_ x3)] (v.toList ++ []) n' S' g' 0 0 P))) : V miX12_reach (d + 1) 37 [(0, .ref 53), (1, I_ x1), (2, I_ x2), (3, I_ x3)] [I_ xs0] n (W0 dy) g 0 0 P := by
  have c1 := h.1
  have h := h.2
  refine v_if_ne 21 rfl (tgt := 46) rfl c1 (fun q2 => ?_) (fun q2 => ?_)
  · have h := h.1 q2
    refine v_iload_n 26 1 rfl rfl rfl ?_
    refine v_iload_n 27 2 rfl rfl rfl ?_
    have c3 := h.1
    have h := h.2
    have c4 := h.1
    have h := h.2
    refine v_icmp_eq 28 rfl (tgt := 60) rfl c3 c4 (fun q5 => ?_) (fun q5 => ?_)
    · have h := h.1 q5
      refine v_aload_n 34 0 rfl rfl rfl ?_
      refine v_bipush 35 rfl (by decide) ?_
      refine v_callV (st := []) [I_ 8] 36 rfl lv12_174_reach_11 (al 53 rfl hn) (wk53 dy) (by decide) rfl (Nat.le_refl _) (Nat.le_refl _) ?_
      exact h
    · have h := h.2 q5
      refine v_aload_n 29 0 rfl rfl rfl ?_
      refine v_iload_n 30 2 rfl rfl rfl ?_
      refine v_iload_n 31 1 rfl rfl rfl ?_
      refine v_callV (st := []) [I_ x2, I_ x1] 32 rfl lv12_243_reach_11 (al 53 rfl hn) (wk53 dy) (by decide) rfl (Nat.le_refl _) (Nat.le_refl _) ?_
      exact h
  · have h := h.2 q2
    refine v_aload_n 22 0 rfl rfl rfl ?_
    refine v_iconst 23 rfl ?_
    refine v_callV (st := []) [I_ 5] 24 rfl lv12_174_reach_11 (al 53 rfl hn) (wk53 dy) (by decide) rfl (Nat.le_refl _) (Nat.le_refl _) ?_
    exact h
set_option maxHeartbeats 8000000 in
set_option maxRecDepth 4000 in
theorem bX12_reach_45 {d n : Nat} {dy : Nat → Shp} {g : Hp} {P : Pst} {x1 : Int} {x2 : Int} {x3 : Int} {xs0 : Int} (hn : 100 ≤ n) (h : P (some (I_ xs0)) n (W0 dy) g) : V miX12_reach (d + 1) 45 [(0, .ref 53), (1, I_ x1), (2, I_ x2), (3, I_ x3)] [I_ xs0] n (W0 dy) g 0 0 P := by
  exact v_ret (v := some (I_ xs0)) 25 rfl (Nat.zero_le _) (Nat.zero_le _) trivial rfl h
set_option maxHeartbeats 8000000 in
set_option maxRecDepth 4000 in
theorem bX12_reach_57 {d n : Nat} {dy : Nat → Shp} {g : Hp} {P : Pst} {x1 : Int} {x2 : Int} {x3 : Int} {xs0 : Int} (hn : 100 ≤ n) (h : (i3 xs0) ∧ ((xs0 ≠ 0) → Runs miX12_arms d [.ref 53, I_ x1, I_ x2, I_ 1] n (W0 dy) g (fun v n' S' g' => V miX12_reach (d + 1) 74 [(0, .ref 53), (1, I_ x1), (2, I_ x2), (3, I_ x3)] (v.toList ++ []) n' S' g' 0 0 P)) ∧ ((xs0 = 0) → Runs miX12_refuse d [.ref 53, I_ 8] n (W0 dy) g (fun v n' S' g' => V miX12_reach (d + 1) 66 [(0, .ref 53), (1, I_ x1), (2, I_ x2), (3, I_ x3)] (v.toList ++ []) n' S' g' 0 0 P))) : V miX12_reach (d + 1) 57 [(0, .ref 53), (1, I_ x1), (2, I_ x2), (3, I_ x3)] [I_ xs0] n (W0 dy) g 0 0 P := by
  have c1 := h.1
  have h := h.2
  refine v_if_ne 33 rfl (tgt := 67) rfl c1 (fun q2 => ?_) (fun q2 => ?_)
  · have h := h.1 q2
    refine v_aload_n 38 0 rfl rfl rfl ?_
    refine v_iload_n 39 1 rfl rfl rfl ?_
    refine v_iload_n 40 2 rfl rfl rfl ?_
    refine v_iconst 41 rfl ?_
    refine v_callV (st := []) [I_ x1, I_ x2, I_ 1] 42 rfl lv12_303_reach_11 (al 53 rfl hn) (wk53 dy) (by decide) rfl (Nat.le_refl _) (Nat.le_refl _) ?_
    exact h
  · have h := h.2 q2
    refine v_aload_n 34 0 rfl rfl rfl ?_
    refine v_bipush 35 rfl (by decide) ?_
    refine v_callV (st := []) [I_ 8] 36 rfl lv12_174_reach_11 (al 53 rfl hn) (wk53 dy) (by decide) rfl (Nat.le_refl _) (Nat.le_refl _) ?_
    exact h
set_option maxHeartbeats 8000000 in
set_option maxRecDepth 4000 in
theorem bX12_reach_66 {d n : Nat} {dy : Nat → Shp} {g : Hp} {P : Pst} {x1 : Int} {x2 : Int} {x3 : Int} {xs0 : Int} (hn : 100 ≤ n) (h : P (some (I_ xs0)) n (W0 dy) g) : V miX12_reach (d + 1) 66 [(0, .ref 53), (1, I_ x1), (2, I_ x2), (3, I_ x3)] [I_ xs0] n (W0 dy) g 0 0 P := by
  exact v_ret (v := some (I_ xs0)) 37 rfl (Nat.zero_le _) (Nat.zero_le _) trivial rfl h
set_option maxHeartbeats 8000000 in
set_option maxRecDepth 4000 in
theorem bX12_reach_74 {d n : Nat} {dy : Nat → Shp} {g : Hp} {P : Pst} {x1 : Int} {x2 : Int} {x3 : Int} (hn : 100 ≤ n) (h : (((g 53 32) ≠ 0) → (i3 x3) ∧ ((x3 = 0) → Runs miX12_armsLeast d [.ref 53] n (W0 dy) g (fun v n' S' g' => V miX12_reach (d + 1) 103 [(0, .ref 53), (1, I_ x1), (2, I_ x2), (3, I_ x3)] (v.toList ++ []) n' S' g' 0 0 P)) ∧ ((x3 ≠ 0) → V miX12_reach (d + 1) 103 [(0, .ref 53), (1, I_ x1), (2, I_ x2), (3, I_ x3)] [I_ (g 53 33)] n (W0 dy) g 0 0 P)) ∧ (((g 53 32) = 0) → Runs miX12_refuse d [.ref 53, I_ 9] n (W0 dy) g (fun v n' S' g' => V miX12_reach (d + 1) 87 [(0, .ref 53), (1, I_ x1), (2, I_ x2), (3, I_ x3)] (v.toList ++ []) n' S' g' 0 0 P))) : V miX12_reach (d + 1) 74 [(0, .ref 53), (1, I_ x1), (2, I_ x2), (3, I_ x3)] [] n (W0 dy) g 0 0 P := by
  refine v_aload_n 43 0 rfl rfl rfl ?_
  refine v_gI 44 rfl fl12_287_11.r (al 53 rfl hn) (wk53 dy) (by decide) rfl (wc53_32 dy) (x := g 53 32) rfl ?_
  refine v_rng fun w1 => ?_
  have p2 : i3 (g 53 32) := rI w1 (q := 32) (al 53 rfl hn) (wk53 dy) rfl rfl
  refine v_if_ne 45 rfl (tgt := 88) rfl p2 (fun q3 => ?_) (fun q3 => ?_)
  · have h := h.1 q3
    refine v_iload_n 50 3 rfl rfl rfl ?_
    have c4 := h.1
    have h := h.2
    refine v_if_eq 51 rfl (tgt := 99) rfl c4 (fun q5 => ?_) (fun q5 => ?_)
    · have h := h.1 q5
      refine v_aload_n 55 0 rfl rfl rfl ?_
      refine v_callV (st := []) [] 56 rfl lv12_307_reach_11 (al 53 rfl hn) (wk53 dy) (by decide) rfl (Nat.le_refl _) (Nat.le_refl _) ?_
      exact h
    · have h := h.2 q5
      refine v_aload_n 52 0 rfl rfl rfl ?_
      refine v_gI 53 rfl fl12_291_11.r (al 53 rfl hn) (wk53 dy) (by decide) rfl (wc53_33 dy) (x := g 53 33) rfl ?_
      refine v_rng fun w6 => ?_
      have p7 : i3 (g 53 33) := rI w6 (q := 33) (al 53 rfl hn) (wk53 dy) rfl rfl
      refine v_goto 54 rfl (tgt := 103) rfl ?_
      exact h
  · have h := h.2 q3
    refine v_aload_n 46 0 rfl rfl rfl ?_
    refine v_bipush 47 rfl (by decide) ?_
    refine v_callV (st := []) [I_ 9] 48 rfl lv12_174_reach_11 (al 53 rfl hn) (wk53 dy) (by decide) rfl (Nat.le_refl _) (Nat.le_refl _) ?_
    exact h
set_option maxHeartbeats 8000000 in
set_option maxRecDepth 4000 in
theorem bX12_reach_87 {d n : Nat} {dy : Nat → Shp} {g : Hp} {P : Pst} {x1 : Int} {x2 : Int} {x3 : Int} {xs0 : Int} (hn : 100 ≤ n) (h : P (some (I_ xs0)) n (W0 dy) g) : V miX12_reach (d + 1) 87 [(0, .ref 53), (1, I_ x1), (2, I_ x2), (3, I_ x3)] [I_ xs0] n (W0 dy) g 0 0 P := by
  exact v_ret (v := some (I_ xs0)) 49 rfl (Nat.zero_le _) (Nat.zero_le _) trivial rfl h
set_option maxHeartbeats 8000000 in
set_option maxRecDepth 4000 in
theorem bX12_reach_103 {d n : Nat} {dy : Nat → Shp} {g : Hp} {P : Pst} {x1 : Int} {x2 : Int} {x3 : Int} {xs0 : Int} (hn : 100 ≤ n) (h : P (some (I_ xs0)) n (W0 dy) g) : V miX12_reach (d + 1) 103 [(0, .ref 53), (1, I_ x1), (2, I_ x2), (3, I_ x3)] [I_ xs0] n (W0 dy) g 0 0 P := by
  exact v_ret (v := some (I_ xs0)) 57 rfl (Nat.zero_le _) (Nat.zero_le _) trivial rfl h
theorem wX12_reach {d n : Nat} {dy : Nat → Shp} {g : Hp} {P : Pst} {x1 : Int} {x2 : Int} {x3 : Int} (hn : 100 ≤ n) (h : Runs miX12_isPart d [.ref 53, I_ x1] n (W0 dy) (up2 (up2 g 53 1 0) 53 0 0) (fun v n' S' g' => V miX12_reach (d + 1) 15 [(0, .ref 53), (1, I_ x1), (2, I_ x2), (3, I_ x3)] (v.toList ++ []) n' S' g' 0 0 P)) : Runs miX12_reach (d + 1) [.ref 53, I_ x1, I_ x2, I_ x3] n (W0 dy) g P := Runs.of rfl rfl deX12_reach (Nat.le_of_ble_eq_true rfl) (bX12_reach_0 hn h)
theorem lv12_274_lowest_11 : LkV miX12_lowest miX12_topped 274 1 11 := ⟨⟨⟨tbG_in (List.mem_append_right _ (List.mem_of_getElem? (i := 1501) (by decide +kernel))) rfl, tbG_in (List.mem_append_right _ (List.mem_of_getElem? (i := 9) (by decide +kernel))) rfl, tbG_in (List.mem_append_right _ (List.mem_of_getElem? (i := 1498) (by decide +kernel))) rfl⟩, ⟨by decide +kernel, by decide +kernel, by decide +kernel⟩, by decide⟩, tbG_in (List.mem_append_right _ (List.mem_of_getElem? (i := 1500) (by decide +kernel))) rfl, RX12, TX12, 58, rfl, tbG_in (List.mem_append_left _ (List.mem_of_getElem? (i := 70) (by decide +kernel))) rfl⟩
theorem lv12_277_lowest_11 : LkV miX12_lowest miX12_marks 277 1 11 := ⟨⟨⟨tbG_in (List.mem_append_right _ (List.mem_of_getElem? (i := 1505) (by decide +kernel))) rfl, tbG_in (List.mem_append_right _ (List.mem_of_getElem? (i := 9) (by decide +kernel))) rfl, tbG_in (List.mem_append_right _ (List.mem_of_getElem? (i := 1502) (by decide +kernel))) rfl⟩, ⟨by decide +kernel, by decide +kernel, by decide +kernel⟩, by decide⟩, tbG_in (List.mem_append_right _ (List.mem_of_getElem? (i := 1504) (by decide +kernel))) rfl, RX12, TX12, 58, rfl, tbG_in (List.mem_append_left _ (List.mem_of_getElem? (i := 71) (by decide +kernel))) rfl⟩
theorem lv12_231_lowest_11 : LkV miX12_lowest miX12_heightOf 231 1 11 := ⟨⟨⟨tbG_in (List.mem_append_right _ (List.mem_of_getElem? (i := 1412) (by decide +kernel))) rfl, tbG_in (List.mem_append_right _ (List.mem_of_getElem? (i := 9) (by decide +kernel))) rfl, tbG_in (List.mem_append_right _ (List.mem_of_getElem? (i := 1409) (by decide +kernel))) rfl⟩, ⟨by decide +kernel, by decide +kernel, by decide +kernel⟩, by decide⟩, tbG_in (List.mem_append_right _ (List.mem_of_getElem? (i := 1411) (by decide +kernel))) rfl, RX12, TX12, 58, rfl, tbG_in (List.mem_append_left _ (List.mem_of_getElem? (i := 57) (by decide +kernel))) rfl⟩
set_option maxHeartbeats 8000000 in
set_option maxRecDepth 4000 in
theorem bX12_lowest_0 {d n : Nat} {dy : Nat → Shp} {g : Hp} {P : Pst} {x1 : Int} (hn : 100 ≤ n) (h : Runs miX12_topped d [.ref 53, I_ x1] n (W0 dy) (up2 g 53 1 0) (fun v n' S' g' => V miX12_lowest (d + 1) 11 [(0, .ref 53), (1, I_ x1)] (v.toList ++ [.ref 53]) n' S' g' 0 0 P)) : V miX12_lowest (d + 1) 0 [(0, .ref 53), (1, I_ x1)] [] n (W0 dy) g 0 0 P := by
  refine v_aload_n 0 0 rfl rfl rfl ?_
  refine v_iconst 1 rfl ?_
  refine v_putI 2 rfl fl12_148_11 (al 53 rfl hn) (wk53 dy) (by decide) rfl (wc53_1 dy) (by decide) ?_
  refine v_aload_n 3 0 rfl rfl rfl ?_
  refine v_aload_n 4 0 rfl rfl rfl ?_
  refine v_iload_n 5 1 rfl rfl rfl ?_
  refine v_callV (st := [.ref 53]) [I_ x1] 6 rfl lv12_274_lowest_11 (al 53 rfl hn) (wk53 dy) (by decide) rfl (Nat.le_refl _) (Nat.le_refl _) ?_
  exact h
set_option maxHeartbeats 8000000 in
set_option maxRecDepth 4000 in
theorem bX12_lowest_11 {d n : Nat} {dy : Nat → Shp} {g : Hp} {P : Pst} {x1 : Int} {xs1 : Int} (hn : 100 ≤ n) (h : (i3 xs1) ∧ ((xs1 ≤ 0) → Runs miX12_marks d [.ref 53, I_ x1] n (W0 dy) (up2 g 53 0 xs1) (fun v n' S' g' => V miX12_lowest (d + 1) 28 [(0, .ref 53), (1, I_ x1)] (v.toList ++ []) n' S' g' 0 0 P)) ∧ ((0 < xs1) → P (some (I_ ((-1)))) n (W0 dy) (up2 g 53 0 xs1))) : V miX12_lowest (d + 1) 11 [(0, .ref 53), (1, I_ x1)] [I_ xs1, .ref 53] n (W0 dy) g 0 0 P := by
  have c1 := h.1
  have h := h.2
  refine v_putI 7 rfl fl12_152_11 (al 53 rfl hn) (wk53 dy) (by decide) rfl (wc53_0 dy) c1 ?_
  refine v_aload_n 8 0 rfl rfl rfl ?_
  refine v_gI 9 rfl fl12_152_11.r (al 53 rfl hn) (wk53 dy) (by decide) rfl (wc53_0 dy) (x := xs1) rfl ?_
  refine v_rng fun w2 => ?_
  have p3 : i3 (xs1) := rI w2 (q := 0) (al 53 rfl hn) (wk53 dy) rfl rfl
  refine v_if_le 10 rfl (tgt := 23) rfl p3 (fun q4 => ?_) (fun q4 => ?_)
  · have h := h.1 q4
    refine v_aload_n 13 0 rfl rfl rfl ?_
    refine v_iload_n 14 1 rfl rfl rfl ?_
    refine v_callV (st := []) [I_ x1] 15 rfl lv12_277_lowest_11 (al 53 rfl hn) (wk53 dy) (by decide) rfl (Nat.le_refl _) (Nat.le_refl _) ?_
    exact h
  · have h := h.2 q4
    refine v_iconst 11 rfl ?_
    exact v_ret (v := some (I_ ((-1)))) 12 rfl (Nat.zero_le _) (Nat.zero_le _) trivial rfl h
set_option maxHeartbeats 8000000 in
set_option maxRecDepth 4000 in
theorem bX12_lowest_28 {d n : Nat} {dy : Nat → Shp} {g : Hp} {P : Pst} {x1 : Int} (hn : 100 ≤ n) (h : V miX12_lowest (d + 1) 32 [(0, .ref 53), (1, I_ x1), (2, I_ ((-1))), (3, I_ 0)] [] n (W0 dy) g 0 0 P) : V miX12_lowest (d + 1) 28 [(0, .ref 53), (1, I_ x1)] [] n (W0 dy) g 0 0 P := by
  refine v_iconst 16 rfl ?_
  refine v_istore_n 17 [1, 2, 0] rfl rfl (by decide) rfl ?_
  refine v_iconst 18 rfl ?_
  refine v_istore_n 19 [1, 2, 3, 0] rfl rfl (by decide) rfl ?_
  exact h
set_option maxHeartbeats 8000000 in
set_option maxRecDepth 4000 in
theorem bX12_lowest_32 {d n : Nat} {dy : Nat → Shp} {g : Hp} {P : Pst} {x1 : Int} {x2 : Int} {x3 : Int} (hn : 100 ≤ n) (h : (i3 x3) ∧ (((g 53 5) ≤ x3) → P (some (I_ x2)) n (W0 dy) g) ∧ ((x3 < (g 53 5)) → (0 ≤ x3 ∧ x3 < 60) ∧ (((g 75 x3.toNat) = 0) → V miX12_lowest (d + 1) 32 [(0, .ref 53), (1, I_ x1), (2, I_ x2), (3, I_ (x3 + 1))] [] n (W0 dy) g 0 0 P) ∧ (((g 75 x3.toNat) ≠ 0) → (i3 x2) ∧ ((x2 < 0) → V miX12_lowest (d + 1) 32 [(0, .ref 53), (1, I_ x1), (2, I_ x3), (3, I_ (x3 + 1))] [] n (W0 dy) g 0 0 P) ∧ ((0 ≤ x2) → Runs miX12_heightOf d [.ref 53, I_ x3] n (W0 dy) g (fun v n' S' g' => V miX12_lowest (d + 1) 58 [(0, .ref 53), (1, I_ x1), (2, I_ x2), (3, I_ x3)] (v.toList ++ []) n' S' g' 0 0 P))))) : V miX12_lowest (d + 1) 32 [(0, .ref 53), (1, I_ x1), (2, I_ x2), (3, I_ x3)] [] n (W0 dy) g 0 0 P := by
  refine v_iload_n 20 3 rfl rfl rfl ?_
  refine v_aload_n 21 0 rfl rfl rfl ?_
  refine v_gI 22 rfl fl12_169_11.r (al 53 rfl hn) (wk53 dy) (by decide) rfl (wc53_5 dy) (x := g 53 5) rfl ?_
  refine v_rng fun w1 => ?_
  have p2 : i3 (g 53 5) := rI w1 (q := 5) (al 53 rfl hn) (wk53 dy) rfl rfl
  have c3 := h.1
  have h := h.2
  refine v_icmp_ge 23 rfl (tgt := 74) rfl c3 p2 (fun q4 => ?_) (fun q4 => ?_)
  · have h := h.1 q4
    refine v_iload_n 42 2 rfl rfl rfl ?_
    exact v_ret (v := some (I_ x2)) 43 rfl (Nat.zero_le _) (Nat.zero_le _) trivial rfl h
  · have h := h.2 q4
    refine v_aload_n 24 0 rfl rfl rfl ?_
    refine v_gK 25 rfl fl12_74_11.r (al 53 rfl hn) (wk53 dy) (by decide) rfl (r := 75) (wc53_24 dy) ?_
    refine v_iload_n 26 3 rfl rfl rfl ?_
    have c5 := h.1
    have h := h.2
    refine v_za (N := 60) 27 rfl (al 75 rfl hn) (wk75 dy) (wn75 dy) (by decide) c5 (y := g 75 x3.toNat) rfl ?_
    refine v_rng fun w6 => ?_
    have p7 : i3 (g 75 x3.toNat) := rI w6 (q := x3.toNat) (al 75 rfl hn) (wk75 dy) rfl rfl
    refine v_if_eq 28 rfl (tgt := 68) rfl p7 (fun q8 => ?_) (fun q8 => ?_)
    · have h := h.1 q8
      refine v_iinc 40 3 [1, 2, 3, 0] rfl rfl (by decide) rfl ?_
      refine v_goto 41 rfl (tgt := 32) rfl ?_
      exact h
    · have h := h.2 q8
      refine v_iload_n 29 2 rfl rfl rfl ?_
      have c9 := h.1
      have h := h.2
      refine v_if_lt 30 rfl (tgt := 66) rfl c9 (fun q10 => ?_) (fun q10 => ?_)
      · have h := h.1 q10
        refine v_iload_n 38 3 rfl rfl rfl ?_
        refine v_istore_n 39 [1, 2, 0, 3] rfl rfl (by decide) rfl ?_
        refine v_iinc 40 3 [1, 2, 3, 0] rfl rfl (by decide) rfl ?_
        refine v_goto 41 rfl (tgt := 32) rfl ?_
        exact h
      · have h := h.2 q10
        refine v_aload_n 31 0 rfl rfl rfl ?_
        refine v_iload_n 32 3 rfl rfl rfl ?_
        refine v_callV (st := []) [I_ x3] 33 rfl lv12_231_lowest_11 (al 53 rfl hn) (wk53 dy) (by decide) rfl (Nat.le_refl _) (Nat.le_refl _) ?_
        exact h
set_option maxHeartbeats 8000000 in
set_option maxRecDepth 4000 in
theorem bX12_lowest_58 {d n : Nat} {dy : Nat → Shp} {g : Hp} {P : Pst} {x1 : Int} {x2 : Int} {x3 : Int} {xs0 : Int} (hn : 100 ≤ n) (h : Runs miX12_heightOf d [.ref 53, I_ x2] n (W0 dy) g (fun v n' S' g' => V miX12_lowest (d + 1) 63 [(0, .ref 53), (1, I_ x1), (2, I_ x2), (3, I_ x3)] (v.toList ++ [I_ xs0]) n' S' g' 0 0 P)) : V miX12_lowest (d + 1) 58 [(0, .ref 53), (1, I_ x1), (2, I_ x2), (3, I_ x3)] [I_ xs0] n (W0 dy) g 0 0 P := by
  refine v_aload_n 34 0 rfl rfl rfl ?_
  refine v_iload_n 35 2 rfl rfl rfl ?_
  refine v_callV (st := [I_ xs0]) [I_ x2] 36 rfl lv12_231_lowest_11 (al 53 rfl hn) (wk53 dy) (by decide) rfl (Nat.le_refl _) (Nat.le_refl _) ?_
  exact h
set_option maxHeartbeats 8000000 in
set_option maxRecDepth 4000 in
theorem bX12_lowest_63 {d n : Nat} {dy : Nat → Shp} {g : Hp} {P : Pst} {x1 : Int} {x2 : Int} {x3 : Int} {xs0 : Int} {xs1 : Int} (hn : 100 ≤ n) (h : (i3 xs0) ∧ (i3 xs1) ∧ ((xs0 ≤ xs1) → V miX12_lowest (d + 1) 32 [(0, .ref 53), (1, I_ x1), (2, I_ x2), (3, I_ (x3 + 1))] [] n (W0 dy) g 0 0 P) ∧ ((xs1 < xs0) → V miX12_lowest (d + 1) 32 [(0, .ref 53), (1, I_ x1), (2, I_ x3), (3, I_ (x3 + 1))] [] n (W0 dy) g 0 0 P)) : V miX12_lowest (d + 1) 63 [(0, .ref 53), (1, I_ x1), (2, I_ x2), (3, I_ x3)] [I_ xs1, I_ xs0] n (W0 dy) g 0 0 P := by
  have c1 := h.1
  have h := h.2
  have c2 := h.1
  have h := h.2
  refine v_icmp_le 37 rfl (tgt := 68) rfl c1 c2 (fun q3 => ?_) (fun q3 => ?_)
  · have h := h.1 q3
    refine v_iinc 40 3 [1, 2, 3, 0] rfl rfl (by decide) rfl ?_
    refine v_goto 41 rfl (tgt := 32) rfl ?_
    exact h
  · have h := h.2 q3
    refine v_iload_n 38 3 rfl rfl rfl ?_
    refine v_istore_n 39 [1, 2, 0, 3] rfl rfl (by decide) rfl ?_
    refine v_iinc 40 3 [1, 2, 3, 0] rfl rfl (by decide) rfl ?_
    refine v_goto 41 rfl (tgt := 32) rfl ?_
    exact h
theorem wX12_lowest {d n : Nat} {dy : Nat → Shp} {g : Hp} {P : Pst} {x1 : Int} (hn : 100 ≤ n) (h : Runs miX12_topped d [.ref 53, I_ x1] n (W0 dy) (up2 g 53 1 0) (fun v n' S' g' => V miX12_lowest (d + 1) 11 [(0, .ref 53), (1, I_ x1)] (v.toList ++ [.ref 53]) n' S' g' 0 0 P)) : Runs miX12_lowest (d + 1) [.ref 53, I_ x1] n (W0 dy) g P := Runs.of rfl rfl deX12_lowest (Nat.le_of_ble_eq_true rfl) (bX12_lowest_0 hn h)
theorem lv12_243_lastAbove_11 : LkV miX12_lastAbove miX12_isAbove 243 2 11 := ⟨⟨⟨tbG_in (List.mem_append_right _ (List.mem_of_getElem? (i := 1436) (by decide +kernel))) rfl, tbG_in (List.mem_append_right _ (List.mem_of_getElem? (i := 9) (by decide +kernel))) rfl, tbG_in (List.mem_append_right _ (List.mem_of_getElem? (i := 1433) (by decide +kernel))) rfl⟩, ⟨by decide +kernel, by decide +kernel, by decide +kernel⟩, by decide⟩, tbG_in (List.mem_append_right _ (List.mem_of_getElem? (i := 1435) (by decide +kernel))) rfl, RX12, TX12, 58, rfl, tbG_in (List.mem_append_left _ (List.mem_of_getElem? (i := 61) (by decide +kernel))) rfl⟩
set_option maxHeartbeats 8000000 in
set_option maxRecDepth 4000 in
theorem bX12_lastAbove_0 {d n : Nat} {dy : Nat → Shp} {g : Hp} {P : Pst} {x1 : Int} {x2 : Int} (hn : 100 ≤ n) (h : (0 ≤ x1 ∧ x1 < 60) ∧ V miX12_lastAbove (d + 1) 7 [(0, .ref 53), (1, I_ x1), (2, I_ x2), (3, I_ (g 60 x1.toNat))] [] n (W0 dy) g 0 0 P) : V miX12_lastAbove (d + 1) 0 [(0, .ref 53), (1, I_ x1), (2, I_ x2)] [] n (W0 dy) g 0 0 P := by
  refine v_aload_n 0 0 rfl rfl rfl ?_
  refine v_gK 1 rfl fl12_29_11.r (al 53 rfl hn) (wk53 dy) (by decide) rfl (r := 60) (wc53_9 dy) ?_
  refine v_iload_n 2 1 rfl rfl rfl ?_
  have c1 := h.1
  have h := h.2
  refine v_ia (N := 60) 3 rfl (al 60 rfl hn) (wk60 dy) (wn60 dy) (by decide) c1 (y := g 60 x1.toNat) rfl ?_
  refine v_rng fun w2 => ?_
  have p3 : i3 (g 60 x1.toNat) := rI w2 (q := x1.toNat) (al 60 rfl hn) (wk60 dy) rfl rfl
  refine v_istore_n 4 [1, 2, 3, 0] rfl rfl (by decide) rfl ?_
  exact h
set_option maxHeartbeats 8000000 in
set_option maxRecDepth 4000 in
theorem bX12_lastAbove_7 {d n : Nat} {dy : Nat → Shp} {g : Hp} {P : Pst} {x1 : Int} {x2 : Int} {x3 : Int} (hn : 100 ≤ n) (h : Runs miX12_isAbove d [.ref 53, I_ x3, I_ x2] n (W0 dy) g (fun v n' S' g' => V miX12_lastAbove (d + 1) 13 [(0, .ref 53), (1, I_ x1), (2, I_ x2), (3, I_ x3)] (v.toList ++ []) n' S' g' 0 0 P)) : V miX12_lastAbove (d + 1) 7 [(0, .ref 53), (1, I_ x1), (2, I_ x2), (3, I_ x3)] [] n (W0 dy) g 0 0 P := by
  refine v_aload_n 5 0 rfl rfl rfl ?_
  refine v_iload_n 6 3 rfl rfl rfl ?_
  refine v_iload_n 7 2 rfl rfl rfl ?_
  refine v_callV (st := []) [I_ x3, I_ x2] 8 rfl lv12_243_lastAbove_11 (al 53 rfl hn) (wk53 dy) (by decide) rfl (Nat.le_refl _) (Nat.le_refl _) ?_
  exact h
set_option maxHeartbeats 8000000 in
set_option maxRecDepth 4000 in
theorem bX12_lastAbove_13 {d n : Nat} {dy : Nat → Shp} {g : Hp} {P : Pst} {x1 : Int} {x2 : Int} {x3 : Int} {xs0 : Int} (hn : 100 ≤ n) (h : (i3 xs0) ∧ ((xs0 ≠ 0) → P (some (I_ x3)) n (W0 dy) g) ∧ ((xs0 = 0) → (0 ≤ x3 ∧ x3 < 60) ∧ V miX12_lastAbove (d + 1) 7 [(0, .ref 53), (1, I_ x1), (2, I_ x2), (3, I_ (g 60 x3.toNat))] [] n (W0 dy) g 0 0 P)) : V miX12_lastAbove (d + 1) 13 [(0, .ref 53), (1, I_ x1), (2, I_ x2), (3, I_ x3)] [I_ xs0] n (W0 dy) g 0 0 P := by
  have c1 := h.1
  have h := h.2
  refine v_if_ne 9 rfl (tgt := 26) rfl c1 (fun q2 => ?_) (fun q2 => ?_)
  · have h := h.1 q2
    refine v_iload_n 16 3 rfl rfl rfl ?_
    exact v_ret (v := some (I_ x3)) 17 rfl (Nat.zero_le _) (Nat.zero_le _) trivial rfl h
  · have h := h.2 q2
    refine v_aload_n 10 0 rfl rfl rfl ?_
    refine v_gK 11 rfl fl12_29_11.r (al 53 rfl hn) (wk53 dy) (by decide) rfl (r := 60) (wc53_9 dy) ?_
    refine v_iload_n 12 3 rfl rfl rfl ?_
    have c3 := h.1
    have h := h.2
    refine v_ia (N := 60) 13 rfl (al 60 rfl hn) (wk60 dy) (wn60 dy) (by decide) c3 (y := g 60 x3.toNat) rfl ?_
    refine v_rng fun w4 => ?_
    have p5 : i3 (g 60 x3.toNat) := rI w4 (q := x3.toNat) (al 60 rfl hn) (wk60 dy) rfl rfl
    refine v_istore_n 14 [1, 2, 3, 0] rfl rfl (by decide) rfl ?_
    refine v_goto 15 rfl (tgt := 7) rfl ?_
    exact h
theorem wX12_lastAbove {d n : Nat} {dy : Nat → Shp} {g : Hp} {P : Pst} {x1 : Int} {x2 : Int} (hn : 100 ≤ n) (h : (0 ≤ x1 ∧ x1 < 60) ∧ V miX12_lastAbove (d + 1) 7 [(0, .ref 53), (1, I_ x1), (2, I_ x2), (3, I_ (g 60 x1.toNat))] [] n (W0 dy) g 0 0 P) : Runs miX12_lastAbove (d + 1) [.ref 53, I_ x1, I_ x2] n (W0 dy) g P := Runs.of rfl rfl deX12_lastAbove (Nat.le_of_ble_eq_true rfl) (bX12_lastAbove_0 hn h)
theorem lv12_310_near_11 : LkV miX12_near miX12_lastAbove 310 2 11 := ⟨⟨⟨tbG_in (List.mem_append_right _ (List.mem_of_getElem? (i := 1557) (by decide +kernel))) rfl, tbG_in (List.mem_append_right _ (List.mem_of_getElem? (i := 9) (by decide +kernel))) rfl, tbG_in (List.mem_append_right _ (List.mem_of_getElem? (i := 1554) (by decide +kernel))) rfl⟩, ⟨by decide +kernel, by decide +kernel, by decide +kernel⟩, by decide⟩, tbG_in (List.mem_append_right _ (List.mem_of_getElem? (i := 1556) (by decide +kernel))) rfl, RX12, TX12, 58, rfl, tbG_in (List.mem_append_left _ (List.mem_of_getElem? (i := 79) (by decide +kernel))) rfl⟩
theorem lv12_303_near_11 : LkV miX12_near miX12_arms 303 3 11 := ⟨⟨⟨tbG_in (List.mem_append_right _ (List.mem_of_getElem? (i := 1529) (by decide +kernel))) rfl, tbG_in (List.mem_append_right _ (List.mem_of_getElem? (i := 9) (by decide +kernel))) rfl, tbG_in (List.mem_append_right _ (List.mem_of_getElem? (i := 1526) (by decide +kernel))) rfl⟩, ⟨by decide +kernel, by decide +kernel, by decide +kernel⟩, by decide⟩, tbG_in (List.mem_append_right _ (List.mem_of_getElem? (i := 1528) (by decide +kernel))) rfl, RX12, TX12, 58, rfl, tbG_in (List.mem_append_left _ (List.mem_of_getElem? (i := 74) (by decide +kernel))) rfl⟩
theorem lv12_307_near_11 : LkV miX12_near miX12_armsLeast 307 0 11 := ⟨⟨⟨tbG_in (List.mem_append_right _ (List.mem_of_getElem? (i := 1541) (by decide +kernel))) rfl, tbG_in (List.mem_append_right _ (List.mem_of_getElem? (i := 9) (by decide +kernel))) rfl, tbG_in (List.mem_append_right _ (List.mem_of_getElem? (i := 1538) (by decide +kernel))) rfl⟩, ⟨by decide +kernel, by decide +kernel, by decide +kernel⟩, by decide⟩, tbG_in (List.mem_append_right _ (List.mem_of_getElem? (i := 1540) (by decide +kernel))) rfl, RX12, TX12, 58, rfl, tbG_in (List.mem_append_left _ (List.mem_of_getElem? (i := 77) (by decide +kernel))) rfl⟩
set_option maxHeartbeats 8000000 in
set_option maxRecDepth 4000 in
theorem bX12_near_0 {d n : Nat} {dy : Nat → Shp} {g : Hp} {P : Pst} {x1 : Int} {x2 : Int} (hn : 100 ≤ n) (h : Runs miX12_lastAbove d [.ref 53, I_ x1, I_ x2] n (W0 dy) g (fun v n' S' g' => V miX12_near (d + 1) 6 [(0, .ref 53), (1, I_ x1), (2, I_ x2)] (v.toList ++ []) n' S' g' 0 0 P)) : V miX12_near (d + 1) 0 [(0, .ref 53), (1, I_ x1), (2, I_ x2)] [] n (W0 dy) g 0 0 P := by
  refine v_aload_n 0 0 rfl rfl rfl ?_
  refine v_iload_n 1 1 rfl rfl rfl ?_
  refine v_iload_n 2 2 rfl rfl rfl ?_
  refine v_callV (st := []) [I_ x1, I_ x2] 3 rfl lv12_310_near_11 (al 53 rfl hn) (wk53 dy) (by decide) rfl (Nat.le_refl _) (Nat.le_refl _) ?_
  exact h
set_option maxHeartbeats 8000000 in
set_option maxRecDepth 4000 in
theorem bX12_near_6 {d n : Nat} {dy : Nat → Shp} {g : Hp} {P : Pst} {x1 : Int} {x2 : Int} {xs0 : Int} (hn : 100 ≤ n) (h : Runs miX12_arms d [.ref 53, I_ x1, I_ xs0, I_ 0] n (W0 dy) g (fun v n' S' g' => V miX12_near (d + 1) 14 [(0, .ref 53), (1, I_ x1), (2, I_ x2), (3, I_ xs0)] (v.toList ++ []) n' S' g' 0 0 P)) : V miX12_near (d + 1) 6 [(0, .ref 53), (1, I_ x1), (2, I_ x2)] [I_ xs0] n (W0 dy) g 0 0 P := by
  refine v_istore_n 4 [1, 2, 3, 0] rfl rfl (by decide) rfl ?_
  refine v_aload_n 5 0 rfl rfl rfl ?_
  refine v_iload_n 6 1 rfl rfl rfl ?_
  refine v_iload_n 7 3 rfl rfl rfl ?_
  refine v_iconst 8 rfl ?_
  refine v_callV (st := []) [I_ x1, I_ xs0, I_ 0] 9 rfl lv12_303_near_11 (al 53 rfl hn) (wk53 dy) (by decide) rfl (Nat.le_refl _) (Nat.le_refl _) ?_
  exact h
set_option maxHeartbeats 8000000 in
set_option maxRecDepth 4000 in
theorem bX12_near_14 {d n : Nat} {dy : Nat → Shp} {g : Hp} {P : Pst} {x1 : Int} {x2 : Int} {x3 : Int} (hn : 100 ≤ n) (h : Runs miX12_armsLeast d [.ref 53] n (W0 dy) g (fun v n' S' g' => V miX12_near (d + 1) 24 [(0, .ref 53), (1, I_ x1), (2, I_ x2), (3, I_ x3), (4, I_ (g 53 32))] (v.toList ++ []) n' S' g' 0 0 P)) : V miX12_near (d + 1) 14 [(0, .ref 53), (1, I_ x1), (2, I_ x2), (3, I_ x3)] [] n (W0 dy) g 0 0 P := by
  refine v_aload_n 10 0 rfl rfl rfl ?_
  refine v_gI 11 rfl fl12_287_11.r (al 53 rfl hn) (wk53 dy) (by decide) rfl (wc53_32 dy) (x := g 53 32) rfl ?_
  refine v_rng fun w1 => ?_
  have p2 : i3 (g 53 32) := rI w1 (q := 32) (al 53 rfl hn) (wk53 dy) rfl rfl
  refine v_istore 12 [1, 2, 3, 4, 0] rfl (by decide) rfl ?_
  refine v_aload_n 13 0 rfl rfl rfl ?_
  refine v_callV (st := []) [] 14 rfl lv12_307_near_11 (al 53 rfl hn) (wk53 dy) (by decide) rfl (Nat.le_refl _) (Nat.le_refl _) ?_
  exact h
set_option maxHeartbeats 8000000 in
set_option maxRecDepth 4000 in
theorem bX12_near_24 {d n : Nat} {dy : Nat → Shp} {g : Hp} {P : Pst} {x1 : Int} {x2 : Int} {x3 : Int} {x4 : Int} {xs0 : Int} (hn : 100 ≤ n) (h : Runs miX12_arms d [.ref 53, I_ x2, I_ x3, I_ 0] n (W0 dy) g (fun v n' S' g' => V miX12_near (d + 1) 39 [(0, .ref 53), (1, I_ x1), (2, I_ x2), (3, I_ x3), (4, I_ x4), (5, I_ xs0), (6, I_ (g 53 33))] (v.toList ++ []) n' S' g' 0 0 P)) : V miX12_near (d + 1) 24 [(0, .ref 53), (1, I_ x1), (2, I_ x2), (3, I_ x3), (4, I_ x4)] [I_ xs0] n (W0 dy) g 0 0 P := by
  refine v_istore 15 [1, 2, 3, 4, 5, 0] rfl (by decide) rfl ?_
  refine v_aload_n 16 0 rfl rfl rfl ?_
  refine v_gI 17 rfl fl12_291_11.r (al 53 rfl hn) (wk53 dy) (by decide) rfl (wc53_33 dy) (x := g 53 33) rfl ?_
  refine v_rng fun w1 => ?_
  have p2 : i3 (g 53 33) := rI w1 (q := 33) (al 53 rfl hn) (wk53 dy) rfl rfl
  refine v_istore 18 [1, 2, 3, 4, 5, 6, 0] rfl (by decide) rfl ?_
  refine v_aload_n 19 0 rfl rfl rfl ?_
  refine v_iload_n 20 2 rfl rfl rfl ?_
  refine v_iload_n 21 3 rfl rfl rfl ?_
  refine v_iconst 22 rfl ?_
  refine v_callV (st := []) [I_ x2, I_ x3, I_ 0] 23 rfl lv12_303_near_11 (al 53 rfl hn) (wk53 dy) (by decide) rfl (Nat.le_refl _) (Nat.le_refl _) ?_
  exact h
set_option maxHeartbeats 8000000 in
set_option maxRecDepth 4000 in
theorem bX12_near_39 {d n : Nat} {dy : Nat → Shp} {g : Hp} {P : Pst} {x1 : Int} {x2 : Int} {x3 : Int} {x4 : Int} {x5 : Int} {x6 : Int} (hn : 100 ≤ n) (h : (i3 x4) ∧ ((x4 = 0) → P (some (I_ ((-1)))) n (W0 dy) g) ∧ ((x4 ≠ 0) → (((g 53 32) ≠ 0) → Runs miX12_armsLeast d [.ref 53] n (W0 dy) g (fun v n' S' g' => V miX12_near (d + 1) 57 [(0, .ref 53), (1, I_ x1), (2, I_ x2), (3, I_ x3), (4, I_ x4), (5, I_ x5), (6, I_ x6)] (v.toList ++ []) n' S' g' 0 0 P)) ∧ (((g 53 32) = 0) → P (some (I_ ((-1)))) n (W0 dy) g))) : V miX12_near (d + 1) 39 [(0, .ref 53), (1, I_ x1), (2, I_ x2), (3, I_ x3), (4, I_ x4), (5, I_ x5), (6, I_ x6)] [] n (W0 dy) g 0 0 P := by
  refine v_iload 24 4 rfl rfl ?_
  have c1 := h.1
  have h := h.2
  refine v_if_eq 25 rfl (tgt := 51) rfl c1 (fun q2 => ?_) (fun q2 => ?_)
  · have h := h.1 q2
    refine v_iconst 29 rfl ?_
    exact v_ret (v := some (I_ ((-1)))) 30 rfl (Nat.zero_le _) (Nat.zero_le _) trivial rfl h
  · have h := h.2 q2
    refine v_aload_n 26 0 rfl rfl rfl ?_
    refine v_gI 27 rfl fl12_287_11.r (al 53 rfl hn) (wk53 dy) (by decide) rfl (wc53_32 dy) (x := g 53 32) rfl ?_
    refine v_rng fun w3 => ?_
    have p4 : i3 (g 53 32) := rI w3 (q := 32) (al 53 rfl hn) (wk53 dy) rfl rfl
    refine v_if_ne 28 rfl (tgt := 53) rfl p4 (fun q5 => ?_) (fun q5 => ?_)
    · have h := h.1 q5
      refine v_aload_n 31 0 rfl rfl rfl ?_
      refine v_callV (st := []) [] 32 rfl lv12_307_near_11 (al 53 rfl hn) (wk53 dy) (by decide) rfl (Nat.le_refl _) (Nat.le_refl _) ?_
      exact h
    · have h := h.2 q5
      refine v_iconst 29 rfl ?_
      exact v_ret (v := some (I_ ((-1)))) 30 rfl (Nat.zero_le _) (Nat.zero_le _) trivial rfl h
set_option maxHeartbeats 8000000 in
set_option maxRecDepth 4000 in
theorem bX12_near_57 {d n : Nat} {dy : Nat → Shp} {g : Hp} {P : Pst} {x1 : Int} {x2 : Int} {x3 : Int} {x4 : Int} {x5 : Int} {x6 : Int} {xs0 : Int} (hn : 100 ≤ n) (h : (0 ≤ x3 ∧ x3 < 60) ∧ (i3 (x6 + (g 53 33))) ∧ (((x6 + (g 53 33)) < (g 59 x3.toNat)) → P (some (I_ 0)) n (W0 dy) g) ∧ (((g 59 x3.toNat) ≤ (x6 + (g 53 33))) → (i3 (x5 - (g 53 33))) ∧ (((g 59 x3.toNat) < (x5 - (g 53 33))) → P (some (I_ 0)) n (W0 dy) g) ∧ (((x5 - (g 53 33)) ≤ (g 59 x3.toNat)) → (i3 (xs0 - x6)) ∧ (((g 59 x3.toNat) < (xs0 - x6)) → P (some (I_ 0)) n (W0 dy) g) ∧ (((xs0 - x6) ≤ (g 59 x3.toNat)) → P (some (I_ 1)) n (W0 dy) g)))) : V miX12_near (d + 1) 57 [(0, .ref 53), (1, I_ x1), (2, I_ x2), (3, I_ x3), (4, I_ x4), (5, I_ x5), (6, I_ x6)] [I_ xs0] n (W0 dy) g 0 0 P := by
  refine v_istore 33 [1, 2, 3, 4, 5, 6, 7, 0] rfl (by decide) rfl ?_
  refine v_aload_n 34 0 rfl rfl rfl ?_
  refine v_gI 35 rfl fl12_291_11.r (al 53 rfl hn) (wk53 dy) (by decide) rfl (wc53_33 dy) (x := g 53 33) rfl ?_
  refine v_rng fun w1 => ?_
  have p2 : i3 (g 53 33) := rI w1 (q := 33) (al 53 rfl hn) (wk53 dy) rfl rfl
  refine v_istore 36 [1, 2, 3, 4, 5, 6, 7, 8, 0] rfl (by decide) rfl ?_
  refine v_aload_n 37 0 rfl rfl rfl ?_
  refine v_gK 38 rfl fl12_26_11.r (al 53 rfl hn) (wk53 dy) (by decide) rfl (r := 59) (wc53_8 dy) ?_
  refine v_iload_n 39 3 rfl rfl rfl ?_
  have c3 := h.1
  have h := h.2
  refine v_ia (N := 60) 40 rfl (al 59 rfl hn) (wk59 dy) (wn59 dy) (by decide) c3 (y := g 59 x3.toNat) rfl ?_
  refine v_rng fun w4 => ?_
  have p5 : i3 (g 59 x3.toNat) := rI w4 (q := x3.toNat) (al 59 rfl hn) (wk59 dy) rfl rfl
  refine v_istore 41 [1, 2, 3, 4, 5, 6, 7, 8, 9, 0] rfl (by decide) rfl ?_
  refine v_iload 42 6 rfl rfl ?_
  refine v_iload 43 8 rfl rfl ?_
  refine v_iadd 44 rfl ?_
  refine v_iload 45 9 rfl rfl ?_
  have c6 := h.1
  have h := h.2
  refine v_icmp_lt 46 rfl (tgt := 107) rfl c6 p5 (fun q7 => ?_) (fun q7 => ?_)
  · have h := h.1 q7
    refine v_iconst 59 rfl ?_
    exact v_ret (v := some (I_ 0)) 60 rfl (Nat.zero_le _) (Nat.zero_le _) trivial rfl h
  · have h := h.2 q7
    refine v_iload 47 5 rfl rfl ?_
    refine v_iload 48 8 rfl rfl ?_
    refine v_isub 49 rfl ?_
    refine v_iload 50 9 rfl rfl ?_
    have c8 := h.1
    have h := h.2
    refine v_icmp_gt 51 rfl (tgt := 107) rfl c8 p5 (fun q9 => ?_) (fun q9 => ?_)
    · have h := h.1 q9
      refine v_iconst 59 rfl ?_
      exact v_ret (v := some (I_ 0)) 60 rfl (Nat.zero_le _) (Nat.zero_le _) trivial rfl h
    · have h := h.2 q9
      refine v_iload 52 7 rfl rfl ?_
      refine v_iload 53 6 rfl rfl ?_
      refine v_isub 54 rfl ?_
      refine v_iload 55 9 rfl rfl ?_
      have c10 := h.1
      have h := h.2
      refine v_icmp_gt 56 rfl (tgt := 107) rfl c10 p5 (fun q11 => ?_) (fun q11 => ?_)
      · have h := h.1 q11
        refine v_iconst 59 rfl ?_
        exact v_ret (v := some (I_ 0)) 60 rfl (Nat.zero_le _) (Nat.zero_le _) trivial rfl h
      · have h := h.2 q11
        refine v_iconst 57 rfl ?_
        refine v_goto 58 rfl (tgt := 108) rfl ?_
        exact v_ret (v := some (I_ 1)) 60 rfl (Nat.zero_le _) (Nat.zero_le _) trivial rfl h
theorem wX12_near {d n : Nat} {dy : Nat → Shp} {g : Hp} {P : Pst} {x1 : Int} {x2 : Int} (hn : 100 ≤ n) (h : Runs miX12_lastAbove d [.ref 53, I_ x1, I_ x2] n (W0 dy) g (fun v n' S' g' => V miX12_near (d + 1) 6 [(0, .ref 53), (1, I_ x1), (2, I_ x2)] (v.toList ++ []) n' S' g' 0 0 P)) : Runs miX12_near (d + 1) [.ref 53, I_ x1, I_ x2] n (W0 dy) g P := Runs.of rfl rfl deX12_near (Nat.le_of_ble_eq_true rfl) (bX12_near_0 hn h)
theorem lv12_222_clash_11 : LkV miX12_clash miX12_isPart 222 1 11 := ⟨⟨⟨tbG_in (List.mem_append_right _ (List.mem_of_getElem? (i := 1400) (by decide +kernel))) rfl, tbG_in (List.mem_append_right _ (List.mem_of_getElem? (i := 9) (by decide +kernel))) rfl, tbG_in (List.mem_append_right _ (List.mem_of_getElem? (i := 1397) (by decide +kernel))) rfl⟩, ⟨by decide +kernel, by decide +kernel, by decide +kernel⟩, by decide⟩, tbG_in (List.mem_append_right _ (List.mem_of_getElem? (i := 1399) (by decide +kernel))) rfl, RX12, TX12, 58, rfl, tbG_in (List.mem_append_left _ (List.mem_of_getElem? (i := 56) (by decide +kernel))) rfl⟩
theorem lv12_174_clash_11 : LkV miX12_clash miX12_refuse 174 1 11 := ⟨⟨⟨tbG_in (List.mem_append_right _ (List.mem_of_getElem? (i := 1351) (by decide +kernel))) rfl, tbG_in (List.mem_append_right _ (List.mem_of_getElem? (i := 9) (by decide +kernel))) rfl, tbG_in (List.mem_append_right _ (List.mem_of_getElem? (i := 1348) (by decide +kernel))) rfl⟩, ⟨by decide +kernel, by decide +kernel, by decide +kernel⟩, by decide⟩, tbG_in (List.mem_append_right _ (List.mem_of_getElem? (i := 1350) (by decide +kernel))) rfl, RX12, TX12, 58, rfl, tbG_in (List.mem_append_left _ (List.mem_of_getElem? (i := 50) (by decide +kernel))) rfl⟩
theorem lv12_234_clash_11 : LkV miX12_clash miX12_topOf 234 1 11 := ⟨⟨⟨tbG_in (List.mem_append_right _ (List.mem_of_getElem? (i := 1416) (by decide +kernel))) rfl, tbG_in (List.mem_append_right _ (List.mem_of_getElem? (i := 9) (by decide +kernel))) rfl, tbG_in (List.mem_append_right _ (List.mem_of_getElem? (i := 1413) (by decide +kernel))) rfl⟩, ⟨by decide +kernel, by decide +kernel, by decide +kernel⟩, by decide⟩, tbG_in (List.mem_append_right _ (List.mem_of_getElem? (i := 1415) (by decide +kernel))) rfl, RX12, TX12, 58, rfl, tbG_in (List.mem_append_left _ (List.mem_of_getElem? (i := 58) (by decide +kernel))) rfl⟩
theorem lv12_313_clash_11 : LkV miX12_clash miX12_near 313 2 11 := ⟨⟨⟨tbG_in (List.mem_append_right _ (List.mem_of_getElem? (i := 1553) (by decide +kernel))) rfl, tbG_in (List.mem_append_right _ (List.mem_of_getElem? (i := 9) (by decide +kernel))) rfl, tbG_in (List.mem_append_right _ (List.mem_of_getElem? (i := 1550) (by decide +kernel))) rfl⟩, ⟨by decide +kernel, by decide +kernel, by decide +kernel⟩, by decide⟩, tbG_in (List.mem_append_right _ (List.mem_of_getElem? (i := 1552) (by decide +kernel))) rfl, RX12, TX12, 58, rfl, tbG_in (List.mem_append_left _ (List.mem_of_getElem? (i := 78) (by decide +kernel))) rfl⟩
theorem lv12_231_clash_11 : LkV miX12_clash miX12_heightOf 231 1 11 := ⟨⟨⟨tbG_in (List.mem_append_right _ (List.mem_of_getElem? (i := 1412) (by decide +kernel))) rfl, tbG_in (List.mem_append_right _ (List.mem_of_getElem? (i := 9) (by decide +kernel))) rfl, tbG_in (List.mem_append_right _ (List.mem_of_getElem? (i := 1409) (by decide +kernel))) rfl⟩, ⟨by decide +kernel, by decide +kernel, by decide +kernel⟩, by decide⟩, tbG_in (List.mem_append_right _ (List.mem_of_getElem? (i := 1411) (by decide +kernel))) rfl, RX12, TX12, 58, rfl, tbG_in (List.mem_append_left _ (List.mem_of_getElem? (i := 57) (by decide +kernel))) rfl⟩
set_option maxHeartbeats 8000000 in
set_option maxRecDepth 4000 in
theorem bX12_clash_0 {d n : Nat} {dy : Nat → Shp} {g : Hp} {P : Pst} {x1 : Int} {x2 : Int} (hn : 100 ≤ n) (h : Runs miX12_isPart d [.ref 53, I_ x1] n (W0 dy) (up2 (up2 g 53 1 0) 53 0 0) (fun v n' S' g' => V miX12_clash (d + 1) 15 [(0, .ref 53), (1, I_ x1), (2, I_ x2)] (v.toList ++ []) n' S' g' 0 0 P)) : V miX12_clash (d + 1) 0 [(0, .ref 53), (1, I_ x1), (2, I_ x2)] [] n (W0 dy) g 0 0 P := by
  refine v_aload_n 0 0 rfl rfl rfl ?_
  refine v_iconst 1 rfl ?_
  refine v_putI 2 rfl fl12_148_11 (al 53 rfl hn) (wk53 dy) (by decide) rfl (wc53_1 dy) (by decide) ?_
  refine v_aload_n 3 0 rfl rfl rfl ?_
  refine v_iconst 4 rfl ?_
  refine v_putI 5 rfl fl12_152_11 (al 53 rfl hn) (wk53 dy) (by decide) rfl (wc53_0 dy) (by decide) ?_
  refine v_aload_n 6 0 rfl rfl rfl ?_
  refine v_iload_n 7 1 rfl rfl rfl ?_
  refine v_callV (st := []) [I_ x1] 8 rfl lv12_222_clash_11 (al 53 rfl hn) (wk53 dy) (by decide) rfl (Nat.le_refl _) (Nat.le_refl _) ?_
  exact h
set_option maxHeartbeats 8000000 in
set_option maxRecDepth 4000 in
theorem bX12_clash_15 {d n : Nat} {dy : Nat → Shp} {g : Hp} {P : Pst} {x1 : Int} {x2 : Int} {xs0 : Int} (hn : 100 ≤ n) (h : (i3 xs0) ∧ ((xs0 = 0) → Runs miX12_refuse d [.ref 53, I_ 2] n (W0 dy) g (fun v n' S' g' => V miX12_clash (d + 1) 36 [(0, .ref 53), (1, I_ x1), (2, I_ x2)] (v.toList ++ []) n' S' g' 0 0 P)) ∧ ((xs0 ≠ 0) → Runs miX12_isPart d [.ref 53, I_ x2] n (W0 dy) g (fun v n' S' g' => V miX12_clash (d + 1) 23 [(0, .ref 53), (1, I_ x1), (2, I_ x2)] (v.toList ++ []) n' S' g' 0 0 P))) : V miX12_clash (d + 1) 15 [(0, .ref 53), (1, I_ x1), (2, I_ x2)] [I_ xs0] n (W0 dy) g 0 0 P := by
  have c1 := h.1
  have h := h.2
  refine v_if_eq 9 rfl (tgt := 31) rfl c1 (fun q2 => ?_) (fun q2 => ?_)
  · have h := h.1 q2
    refine v_aload_n 17 0 rfl rfl rfl ?_
    refine v_iconst 18 rfl ?_
    refine v_callV (st := []) [I_ 2] 19 rfl lv12_174_clash_11 (al 53 rfl hn) (wk53 dy) (by decide) rfl (Nat.le_refl _) (Nat.le_refl _) ?_
    exact h
  · have h := h.2 q2
    refine v_aload_n 10 0 rfl rfl rfl ?_
    refine v_iload_n 11 2 rfl rfl rfl ?_
    refine v_callV (st := []) [I_ x2] 12 rfl lv12_222_clash_11 (al 53 rfl hn) (wk53 dy) (by decide) rfl (Nat.le_refl _) (Nat.le_refl _) ?_
    exact h
set_option maxHeartbeats 8000000 in
set_option maxRecDepth 4000 in
theorem bX12_clash_23 {d n : Nat} {dy : Nat → Shp} {g : Hp} {P : Pst} {x1 : Int} {x2 : Int} {xs0 : Int} (hn : 100 ≤ n) (h : (i3 xs0) ∧ ((xs0 = 0) → Runs miX12_refuse d [.ref 53, I_ 2] n (W0 dy) g (fun v n' S' g' => V miX12_clash (d + 1) 36 [(0, .ref 53), (1, I_ x1), (2, I_ x2)] (v.toList ++ []) n' S' g' 0 0 P)) ∧ ((xs0 ≠ 0) → (i3 x1) ∧ (i3 x2) ∧ ((x1 ≠ x2) → (0 ≤ x1 ∧ x1 < 60) ∧ (((g 57 x1.toNat) ≠ 1) → Runs miX12_refuse d [.ref 53, I_ 5] n (W0 dy) g (fun v n' S' g' => V miX12_clash (d + 1) 62 [(0, .ref 53), (1, I_ x1), (2, I_ x2)] (v.toList ++ []) n' S' g' 0 0 P)) ∧ (((g 57 x1.toNat) = 1) → (0 ≤ x2 ∧ x2 < 60) ∧ (((g 57 x2.toNat) = 1) → Runs miX12_topOf d [.ref 53, I_ x1] n (W0 dy) g (fun v n' S' g' => V miX12_clash (d + 1) 68 [(0, .ref 53), (1, I_ x1), (2, I_ x2)] (v.toList ++ []) n' S' g' 0 0 P)) ∧ (((g 57 x2.toNat) ≠ 1) → Runs miX12_refuse d [.ref 53, I_ 5] n (W0 dy) g (fun v n' S' g' => V miX12_clash (d + 1) 62 [(0, .ref 53), (1, I_ x1), (2, I_ x2)] (v.toList ++ []) n' S' g' 0 0 P)))) ∧ ((x1 = x2) → Runs miX12_refuse d [.ref 53, I_ 2] n (W0 dy) g (fun v n' S' g' => V miX12_clash (d + 1) 36 [(0, .ref 53), (1, I_ x1), (2, I_ x2)] (v.toList ++ []) n' S' g' 0 0 P)))) : V miX12_clash (d + 1) 23 [(0, .ref 53), (1, I_ x1), (2, I_ x2)] [I_ xs0] n (W0 dy) g 0 0 P := by
  have c1 := h.1
  have h := h.2
  refine v_if_eq 13 rfl (tgt := 31) rfl c1 (fun q2 => ?_) (fun q2 => ?_)
  · have h := h.1 q2
    refine v_aload_n 17 0 rfl rfl rfl ?_
    refine v_iconst 18 rfl ?_
    refine v_callV (st := []) [I_ 2] 19 rfl lv12_174_clash_11 (al 53 rfl hn) (wk53 dy) (by decide) rfl (Nat.le_refl _) (Nat.le_refl _) ?_
    exact h
  · have h := h.2 q2
    refine v_iload_n 14 1 rfl rfl rfl ?_
    refine v_iload_n 15 2 rfl rfl rfl ?_
    have c3 := h.1
    have h := h.2
    have c4 := h.1
    have h := h.2
    refine v_icmp_ne 16 rfl (tgt := 37) rfl c3 c4 (fun q5 => ?_) (fun q5 => ?_)
    · have h := h.1 q5
      refine v_aload_n 21 0 rfl rfl rfl ?_
      refine v_gK 22 rfl fl12_20_11.r (al 53 rfl hn) (wk53 dy) (by decide) rfl (r := 57) (wc53_6 dy) ?_
      refine v_iload_n 23 1 rfl rfl rfl ?_
      have c6 := h.1
      have h := h.2
      refine v_ia (N := 60) 24 rfl (al 57 rfl hn) (wk57 dy) (wn57 dy) (by decide) c6 (y := g 57 x1.toNat) rfl ?_
      refine v_rng fun w7 => ?_
      have p8 : i3 (g 57 x1.toNat) := rI w7 (q := x1.toNat) (al 57 rfl hn) (wk57 dy) rfl rfl
      refine v_iconst 25 rfl ?_
      refine v_icmp_ne 26 rfl (tgt := 57) rfl p8 (by decide) (fun q9 => ?_) (fun q9 => ?_)
      · have h := h.1 q9
        refine v_aload_n 33 0 rfl rfl rfl ?_
        refine v_iconst 34 rfl ?_
        refine v_callV (st := []) [I_ 5] 35 rfl lv12_174_clash_11 (al 53 rfl hn) (wk53 dy) (by decide) rfl (Nat.le_refl _) (Nat.le_refl _) ?_
        exact h
      · have h := h.2 q9
        refine v_aload_n 27 0 rfl rfl rfl ?_
        refine v_gK 28 rfl fl12_20_11.r (al 53 rfl hn) (wk53 dy) (by decide) rfl (r := 57) (wc53_6 dy) ?_
        refine v_iload_n 29 2 rfl rfl rfl ?_
        have c10 := h.1
        have h := h.2
        refine v_ia (N := 60) 30 rfl (al 57 rfl hn) (wk57 dy) (wn57 dy) (by decide) c10 (y := g 57 x2.toNat) rfl ?_
        refine v_rng fun w11 => ?_
        have p12 : i3 (g 57 x2.toNat) := rI w11 (q := x2.toNat) (al 57 rfl hn) (wk57 dy) rfl rfl
        refine v_iconst 31 rfl ?_
        refine v_icmp_eq 32 rfl (tgt := 63) rfl p12 (by decide) (fun q13 => ?_) (fun q13 => ?_)
        · have h := h.1 q13
          refine v_aload_n 37 0 rfl rfl rfl ?_
          refine v_iload_n 38 1 rfl rfl rfl ?_
          refine v_callV (st := []) [I_ x1] 39 rfl lv12_234_clash_11 (al 53 rfl hn) (wk53 dy) (by decide) rfl (Nat.le_refl _) (Nat.le_refl _) ?_
          exact h
        · have h := h.2 q13
          refine v_aload_n 33 0 rfl rfl rfl ?_
          refine v_iconst 34 rfl ?_
          refine v_callV (st := []) [I_ 5] 35 rfl lv12_174_clash_11 (al 53 rfl hn) (wk53 dy) (by decide) rfl (Nat.le_refl _) (Nat.le_refl _) ?_
          exact h
    · have h := h.2 q5
      refine v_aload_n 17 0 rfl rfl rfl ?_
      refine v_iconst 18 rfl ?_
      refine v_callV (st := []) [I_ 2] 19 rfl lv12_174_clash_11 (al 53 rfl hn) (wk53 dy) (by decide) rfl (Nat.le_refl _) (Nat.le_refl _) ?_
      exact h
set_option maxHeartbeats 8000000 in
set_option maxRecDepth 4000 in
theorem bX12_clash_36 {d n : Nat} {dy : Nat → Shp} {g : Hp} {P : Pst} {x1 : Int} {x2 : Int} {xs0 : Int} (hn : 100 ≤ n) (h : P (some (I_ xs0)) n (W0 dy) g) : V miX12_clash (d + 1) 36 [(0, .ref 53), (1, I_ x1), (2, I_ x2)] [I_ xs0] n (W0 dy) g 0 0 P := by
  exact v_ret (v := some (I_ xs0)) 20 rfl (Nat.zero_le _) (Nat.zero_le _) trivial rfl h
set_option maxHeartbeats 8000000 in
set_option maxRecDepth 4000 in
theorem bX12_clash_62 {d n : Nat} {dy : Nat → Shp} {g : Hp} {P : Pst} {x1 : Int} {x2 : Int} {xs0 : Int} (hn : 100 ≤ n) (h : P (some (I_ xs0)) n (W0 dy) g) : V miX12_clash (d + 1) 62 [(0, .ref 53), (1, I_ x1), (2, I_ x2)] [I_ xs0] n (W0 dy) g 0 0 P := by
  exact v_ret (v := some (I_ xs0)) 36 rfl (Nat.zero_le _) (Nat.zero_le _) trivial rfl h
set_option maxHeartbeats 8000000 in
set_option maxRecDepth 4000 in
theorem bX12_clash_68 {d n : Nat} {dy : Nat → Shp} {g : Hp} {P : Pst} {x1 : Int} {x2 : Int} {xs0 : Int} (hn : 100 ≤ n) (h : Runs miX12_topOf d [.ref 53, I_ x2] n (W0 dy) g (fun v n' S' g' => V miX12_clash (d + 1) 73 [(0, .ref 53), (1, I_ x1), (2, I_ x2)] (v.toList ++ [I_ xs0]) n' S' g' 0 0 P)) : V miX12_clash (d + 1) 68 [(0, .ref 53), (1, I_ x1), (2, I_ x2)] [I_ xs0] n (W0 dy) g 0 0 P := by
  refine v_aload_n 40 0 rfl rfl rfl ?_
  refine v_iload_n 41 2 rfl rfl rfl ?_
  refine v_callV (st := [I_ xs0]) [I_ x2] 42 rfl lv12_234_clash_11 (al 53 rfl hn) (wk53 dy) (by decide) rfl (Nat.le_refl _) (Nat.le_refl _) ?_
  exact h
set_option maxHeartbeats 8000000 in
set_option maxRecDepth 4000 in
theorem bX12_clash_73 {d n : Nat} {dy : Nat → Shp} {g : Hp} {P : Pst} {x1 : Int} {x2 : Int} {xs0 : Int} {xs1 : Int} (hn : 100 ≤ n) (h : (i3 xs0) ∧ (i3 xs1) ∧ ((xs0 = xs1) → Runs miX12_near d [.ref 53, I_ x1, I_ x2] n (W0 dy) g (fun v n' S' g' => V miX12_clash (d + 1) 89 [(0, .ref 53), (1, I_ x1), (2, I_ x2)] (v.toList ++ []) n' S' g' 0 0 P)) ∧ ((xs0 ≠ xs1) → Runs miX12_refuse d [.ref 53, I_ 8] n (W0 dy) g (fun v n' S' g' => V miX12_clash (d + 1) 82 [(0, .ref 53), (1, I_ x1), (2, I_ x2)] (v.toList ++ []) n' S' g' 0 0 P))) : V miX12_clash (d + 1) 73 [(0, .ref 53), (1, I_ x1), (2, I_ x2)] [I_ xs1, I_ xs0] n (W0 dy) g 0 0 P := by
  have c1 := h.1
  have h := h.2
  have c2 := h.1
  have h := h.2
  refine v_icmp_eq 43 rfl (tgt := 83) rfl c1 c2 (fun q3 => ?_) (fun q3 => ?_)
  · have h := h.1 q3
    refine v_aload_n 48 0 rfl rfl rfl ?_
    refine v_iload_n 49 1 rfl rfl rfl ?_
    refine v_iload_n 50 2 rfl rfl rfl ?_
    refine v_callV (st := []) [I_ x1, I_ x2] 51 rfl lv12_313_clash_11 (al 53 rfl hn) (wk53 dy) (by decide) rfl (Nat.le_refl _) (Nat.le_refl _) ?_
    exact h
  · have h := h.2 q3
    refine v_aload_n 44 0 rfl rfl rfl ?_
    refine v_bipush 45 rfl (by decide) ?_
    refine v_callV (st := []) [I_ 8] 46 rfl lv12_174_clash_11 (al 53 rfl hn) (wk53 dy) (by decide) rfl (Nat.le_refl _) (Nat.le_refl _) ?_
    exact h
set_option maxHeartbeats 8000000 in
set_option maxRecDepth 4000 in
theorem bX12_clash_82 {d n : Nat} {dy : Nat → Shp} {g : Hp} {P : Pst} {x1 : Int} {x2 : Int} {xs0 : Int} (hn : 100 ≤ n) (h : P (some (I_ xs0)) n (W0 dy) g) : V miX12_clash (d + 1) 82 [(0, .ref 53), (1, I_ x1), (2, I_ x2)] [I_ xs0] n (W0 dy) g 0 0 P := by
  exact v_ret (v := some (I_ xs0)) 47 rfl (Nat.zero_le _) (Nat.zero_le _) trivial rfl h
set_option maxHeartbeats 8000000 in
set_option maxRecDepth 4000 in
theorem bX12_clash_89 {d n : Nat} {dy : Nat → Shp} {g : Hp} {P : Pst} {x1 : Int} {x2 : Int} {xs0 : Int} (hn : 100 ≤ n) (h : (i3 xs0) ∧ ((0 ≤ xs0) → Runs miX12_heightOf d [.ref 53, I_ x1] n (W0 dy) g (fun v n' S' g' => V miX12_clash (d + 1) 106 [(0, .ref 53), (1, I_ x1), (2, I_ x2), (3, I_ xs0)] (v.toList ++ []) n' S' g' 0 0 P)) ∧ ((xs0 < 0) → Runs miX12_refuse d [.ref 53, I_ 9] n (W0 dy) g (fun v n' S' g' => V miX12_clash (d + 1) 100 [(0, .ref 53), (1, I_ x1), (2, I_ x2), (3, I_ xs0)] (v.toList ++ []) n' S' g' 0 0 P))) : V miX12_clash (d + 1) 89 [(0, .ref 53), (1, I_ x1), (2, I_ x2)] [I_ xs0] n (W0 dy) g 0 0 P := by
  refine v_istore_n 52 [1, 2, 3, 0] rfl rfl (by decide) rfl ?_
  refine v_iload_n 53 3 rfl rfl rfl ?_
  have c1 := h.1
  have h := h.2
  refine v_if_ge 54 rfl (tgt := 101) rfl c1 (fun q2 => ?_) (fun q2 => ?_)
  · have h := h.1 q2
    refine v_aload_n 59 0 rfl rfl rfl ?_
    refine v_iload_n 60 1 rfl rfl rfl ?_
    refine v_callV (st := []) [I_ x1] 61 rfl lv12_231_clash_11 (al 53 rfl hn) (wk53 dy) (by decide) rfl (Nat.le_refl _) (Nat.le_refl _) ?_
    exact h
  · have h := h.2 q2
    refine v_aload_n 55 0 rfl rfl rfl ?_
    refine v_bipush 56 rfl (by decide) ?_
    refine v_callV (st := []) [I_ 9] 57 rfl lv12_174_clash_11 (al 53 rfl hn) (wk53 dy) (by decide) rfl (Nat.le_refl _) (Nat.le_refl _) ?_
    exact h
set_option maxHeartbeats 8000000 in
set_option maxRecDepth 4000 in
theorem bX12_clash_100 {d n : Nat} {dy : Nat → Shp} {g : Hp} {P : Pst} {x1 : Int} {x2 : Int} {x3 : Int} {xs0 : Int} (hn : 100 ≤ n) (h : P (some (I_ xs0)) n (W0 dy) g) : V miX12_clash (d + 1) 100 [(0, .ref 53), (1, I_ x1), (2, I_ x2), (3, I_ x3)] [I_ xs0] n (W0 dy) g 0 0 P := by
  exact v_ret (v := some (I_ xs0)) 58 rfl (Nat.zero_le _) (Nat.zero_le _) trivial rfl h
set_option maxHeartbeats 8000000 in
set_option maxRecDepth 4000 in
theorem bX12_clash_106 {d n : Nat} {dy : Nat → Shp} {g : Hp} {P : Pst} {x1 : Int} {x2 : Int} {x3 : Int} {xs0 : Int} (hn : 100 ≤ n) (h : Runs miX12_heightOf d [.ref 53, I_ x2] n (W0 dy) g (fun v n' S' g' => V miX12_clash (d + 1) 111 [(0, .ref 53), (1, I_ x1), (2, I_ x2), (3, I_ x3)] (v.toList ++ [I_ xs0]) n' S' g' 0 0 P)) : V miX12_clash (d + 1) 106 [(0, .ref 53), (1, I_ x1), (2, I_ x2), (3, I_ x3)] [I_ xs0] n (W0 dy) g 0 0 P := by
  refine v_aload_n 62 0 rfl rfl rfl ?_
  refine v_iload_n 63 2 rfl rfl rfl ?_
  refine v_callV (st := [I_ xs0]) [I_ x2] 64 rfl lv12_231_clash_11 (al 53 rfl hn) (wk53 dy) (by decide) rfl (Nat.le_refl _) (Nat.le_refl _) ?_
  exact h
set_option maxHeartbeats 8000000 in
set_option maxRecDepth 4000 in
theorem bX12_clash_111 {d n : Nat} {dy : Nat → Shp} {g : Hp} {P : Pst} {x1 : Int} {x2 : Int} {x3 : Int} {xs0 : Int} {xs1 : Int} (hn : 100 ≤ n) (h : (i3 xs0) ∧ (i3 xs1) ∧ ((xs0 ≠ xs1) → P (some (I_ 0)) n (W0 dy) g) ∧ ((xs0 = xs1) → P (some (I_ x3)) n (W0 dy) g)) : V miX12_clash (d + 1) 111 [(0, .ref 53), (1, I_ x1), (2, I_ x2), (3, I_ x3)] [I_ xs1, I_ xs0] n (W0 dy) g 0 0 P := by
  have c1 := h.1
  have h := h.2
  have c2 := h.1
  have h := h.2
  refine v_icmp_ne 65 rfl (tgt := 118) rfl c1 c2 (fun q3 => ?_) (fun q3 => ?_)
  · have h := h.1 q3
    refine v_iconst 68 rfl ?_
    exact v_ret (v := some (I_ 0)) 69 rfl (Nat.zero_le _) (Nat.zero_le _) trivial rfl h
  · have h := h.2 q3
    refine v_iload_n 66 3 rfl rfl rfl ?_
    refine v_goto 67 rfl (tgt := 119) rfl ?_
    exact v_ret (v := some (I_ x3)) 69 rfl (Nat.zero_le _) (Nat.zero_le _) trivial rfl h
theorem wX12_clash {d n : Nat} {dy : Nat → Shp} {g : Hp} {P : Pst} {x1 : Int} {x2 : Int} (hn : 100 ≤ n) (h : Runs miX12_isPart d [.ref 53, I_ x1] n (W0 dy) (up2 (up2 g 53 1 0) 53 0 0) (fun v n' S' g' => V miX12_clash (d + 1) 15 [(0, .ref 53), (1, I_ x1), (2, I_ x2)] (v.toList ++ []) n' S' g' 0 0 P)) : Runs miX12_clash (d + 1) [.ref 53, I_ x1, I_ x2] n (W0 dy) g P := Runs.of rfl rfl deX12_clash (Nat.le_of_ble_eq_true rfl) (bX12_clash_0 hn h)
theorem lv12_274_wholes_11 : LkV miX12_wholes miX12_topped 274 1 11 := ⟨⟨⟨tbG_in (List.mem_append_right _ (List.mem_of_getElem? (i := 1501) (by decide +kernel))) rfl, tbG_in (List.mem_append_right _ (List.mem_of_getElem? (i := 9) (by decide +kernel))) rfl, tbG_in (List.mem_append_right _ (List.mem_of_getElem? (i := 1498) (by decide +kernel))) rfl⟩, ⟨by decide +kernel, by decide +kernel, by decide +kernel⟩, by decide⟩, tbG_in (List.mem_append_right _ (List.mem_of_getElem? (i := 1500) (by decide +kernel))) rfl, RX12, TX12, 58, rfl, tbG_in (List.mem_append_left _ (List.mem_of_getElem? (i := 70) (by decide +kernel))) rfl⟩
theorem lv12_277_wholes_11 : LkV miX12_wholes miX12_marks 277 1 11 := ⟨⟨⟨tbG_in (List.mem_append_right _ (List.mem_of_getElem? (i := 1505) (by decide +kernel))) rfl, tbG_in (List.mem_append_right _ (List.mem_of_getElem? (i := 9) (by decide +kernel))) rfl, tbG_in (List.mem_append_right _ (List.mem_of_getElem? (i := 1502) (by decide +kernel))) rfl⟩, ⟨by decide +kernel, by decide +kernel, by decide +kernel⟩, by decide⟩, tbG_in (List.mem_append_right _ (List.mem_of_getElem? (i := 1504) (by decide +kernel))) rfl, RX12, TX12, 58, rfl, tbG_in (List.mem_append_left _ (List.mem_of_getElem? (i := 71) (by decide +kernel))) rfl⟩
theorem lv12_237_wholes_11 : LkV miX12_wholes miX12_isRod 237 1 11 := ⟨⟨⟨tbG_in (List.mem_append_right _ (List.mem_of_getElem? (i := 1428) (by decide +kernel))) rfl, tbG_in (List.mem_append_right _ (List.mem_of_getElem? (i := 9) (by decide +kernel))) rfl, tbG_in (List.mem_append_right _ (List.mem_of_getElem? (i := 1425) (by decide +kernel))) rfl⟩, ⟨by decide +kernel, by decide +kernel, by decide +kernel⟩, by decide⟩, tbG_in (List.mem_append_right _ (List.mem_of_getElem? (i := 1427) (by decide +kernel))) rfl, RX12, TX12, 58, rfl, tbG_in (List.mem_append_left _ (List.mem_of_getElem? (i := 60) (by decide +kernel))) rfl⟩
theorem lv12_297_wholes_11 : LkV miX12_wholes miX12_isWhole 297 1 11 := ⟨⟨⟨tbG_in (List.mem_append_right _ (List.mem_of_getElem? (i := 1533) (by decide +kernel))) rfl, tbG_in (List.mem_append_right _ (List.mem_of_getElem? (i := 9) (by decide +kernel))) rfl, tbG_in (List.mem_append_right _ (List.mem_of_getElem? (i := 1530) (by decide +kernel))) rfl⟩, ⟨by decide +kernel, by decide +kernel, by decide +kernel⟩, by decide⟩, tbG_in (List.mem_append_right _ (List.mem_of_getElem? (i := 1532) (by decide +kernel))) rfl, RX12, TX12, 58, rfl, tbG_in (List.mem_append_left _ (List.mem_of_getElem? (i := 75) (by decide +kernel))) rfl⟩
set_option maxHeartbeats 8000000 in
set_option maxRecDepth 4000 in
theorem bX12_wholes_0 {d n : Nat} {dy : Nat → Shp} {g : Hp} {P : Pst} {x1 : Int} (hn : 100 ≤ n) (h : Runs miX12_topped d [.ref 53, I_ x1] n (W0 dy) g (fun v n' S' g' => V miX12_wholes (d + 1) 5 [(0, .ref 53), (1, I_ x1)] (v.toList ++ []) n' S' g' 0 0 P)) : V miX12_wholes (d + 1) 0 [(0, .ref 53), (1, I_ x1)] [] n (W0 dy) g 0 0 P := by
  refine v_aload_n 0 0 rfl rfl rfl ?_
  refine v_iload_n 1 1 rfl rfl rfl ?_
  refine v_callV (st := []) [I_ x1] 2 rfl lv12_274_wholes_11 (al 53 rfl hn) (wk53 dy) (by decide) rfl (Nat.le_refl _) (Nat.le_refl _) ?_
  exact h
set_option maxHeartbeats 8000000 in
set_option maxRecDepth 4000 in
theorem bX12_wholes_5 {d n : Nat} {dy : Nat → Shp} {g : Hp} {P : Pst} {x1 : Int} {xs0 : Int} (hn : 100 ≤ n) (h : (i3 xs0) ∧ ((xs0 ≤ 0) → Runs miX12_marks d [.ref 53, I_ x1] n (W0 dy) g (fun v n' S' g' => V miX12_wholes (d + 1) 17 [(0, .ref 53), (1, I_ x1), (2, I_ xs0)] (v.toList ++ []) n' S' g' 0 0 P)) ∧ ((0 < xs0) → P (some (I_ xs0)) n (W0 dy) g)) : V miX12_wholes (d + 1) 5 [(0, .ref 53), (1, I_ x1)] [I_ xs0] n (W0 dy) g 0 0 P := by
  refine v_istore_n 3 [1, 2, 0] rfl rfl (by decide) rfl ?_
  refine v_iload_n 4 2 rfl rfl rfl ?_
  have c1 := h.1
  have h := h.2
  refine v_if_le 5 rfl (tgt := 12) rfl c1 (fun q2 => ?_) (fun q2 => ?_)
  · have h := h.1 q2
    refine v_aload_n 8 0 rfl rfl rfl ?_
    refine v_iload_n 9 1 rfl rfl rfl ?_
    refine v_callV (st := []) [I_ x1] 10 rfl lv12_277_wholes_11 (al 53 rfl hn) (wk53 dy) (by decide) rfl (Nat.le_refl _) (Nat.le_refl _) ?_
    exact h
  · have h := h.2 q2
    refine v_iload_n 6 2 rfl rfl rfl ?_
    exact v_ret (v := some (I_ xs0)) 7 rfl (Nat.zero_le _) (Nat.zero_le _) trivial rfl h
set_option maxHeartbeats 8000000 in
set_option maxRecDepth 4000 in
theorem bX12_wholes_17 {d n : Nat} {dy : Nat → Shp} {g : Hp} {P : Pst} {x1 : Int} {x2 : Int} (hn : 100 ≤ n) (h : V miX12_wholes (d + 1) 19 [(0, .ref 53), (1, I_ x1), (2, I_ x2), (3, I_ 0)] [] n (W0 dy) g 0 0 P) : V miX12_wholes (d + 1) 17 [(0, .ref 53), (1, I_ x1), (2, I_ x2)] [] n (W0 dy) g 0 0 P := by
  refine v_iconst 11 rfl ?_
  refine v_istore_n 12 [1, 2, 3, 0] rfl rfl (by decide) rfl ?_
  exact h
set_option maxHeartbeats 8000000 in
set_option maxRecDepth 4000 in
theorem bX12_wholes_19 {d n : Nat} {dy : Nat → Shp} {g : Hp} {P : Pst} {x1 : Int} {x2 : Int} {x3 : Int} (hn : 100 ≤ n) (h : (i3 x3) ∧ (((g 53 5) ≤ x3) → P (some (I_ 0)) n (W0 dy) g) ∧ ((x3 < (g 53 5)) → (0 ≤ x3 ∧ x3 < 60) ∧ (((g 75 x3.toNat) = 0) → V miX12_wholes (d + 1) 19 [(0, .ref 53), (1, I_ x1), (2, I_ x2), (3, I_ (x3 + 1))] [] n (W0 dy) g 0 0 P) ∧ (((g 75 x3.toNat) ≠ 0) → Runs miX12_isRod d [.ref 53, I_ x3] n (W0 dy) g (fun v n' S' g' => V miX12_wholes (d + 1) 41 [(0, .ref 53), (1, I_ x1), (2, I_ x2), (3, I_ x3)] (v.toList ++ []) n' S' g' 0 0 P)))) : V miX12_wholes (d + 1) 19 [(0, .ref 53), (1, I_ x1), (2, I_ x2), (3, I_ x3)] [] n (W0 dy) g 0 0 P := by
  refine v_iload_n 13 3 rfl rfl rfl ?_
  refine v_aload_n 14 0 rfl rfl rfl ?_
  refine v_gI 15 rfl fl12_169_11.r (al 53 rfl hn) (wk53 dy) (by decide) rfl (wc53_5 dy) (x := g 53 5) rfl ?_
  refine v_rng fun w1 => ?_
  have p2 : i3 (g 53 5) := rI w1 (q := 5) (al 53 rfl hn) (wk53 dy) rfl rfl
  have c3 := h.1
  have h := h.2
  refine v_icmp_ge 16 rfl (tgt := 61) rfl c3 p2 (fun q4 => ?_) (fun q4 => ?_)
  · have h := h.1 q4
    refine v_iconst 34 rfl ?_
    exact v_ret (v := some (I_ 0)) 35 rfl (Nat.zero_le _) (Nat.zero_le _) trivial rfl h
  · have h := h.2 q4
    refine v_aload_n 17 0 rfl rfl rfl ?_
    refine v_gK 18 rfl fl12_74_11.r (al 53 rfl hn) (wk53 dy) (by decide) rfl (r := 75) (wc53_24 dy) ?_
    refine v_iload_n 19 3 rfl rfl rfl ?_
    have c5 := h.1
    have h := h.2
    refine v_za (N := 60) 20 rfl (al 75 rfl hn) (wk75 dy) (wn75 dy) (by decide) c5 (y := g 75 x3.toNat) rfl ?_
    refine v_rng fun w6 => ?_
    have p7 : i3 (g 75 x3.toNat) := rI w6 (q := x3.toNat) (al 75 rfl hn) (wk75 dy) rfl rfl
    refine v_if_eq 21 rfl (tgt := 55) rfl p7 (fun q8 => ?_) (fun q8 => ?_)
    · have h := h.1 q8
      refine v_iinc 32 3 [1, 2, 3, 0] rfl rfl (by decide) rfl ?_
      refine v_goto 33 rfl (tgt := 19) rfl ?_
      exact h
    · have h := h.2 q8
      refine v_aload_n 22 0 rfl rfl rfl ?_
      refine v_iload_n 23 3 rfl rfl rfl ?_
      refine v_callV (st := []) [I_ x3] 24 rfl lv12_237_wholes_11 (al 53 rfl hn) (wk53 dy) (by decide) rfl (Nat.le_refl _) (Nat.le_refl _) ?_
      exact h
set_option maxHeartbeats 8000000 in
set_option maxRecDepth 4000 in
theorem bX12_wholes_41 {d n : Nat} {dy : Nat → Shp} {g : Hp} {P : Pst} {x1 : Int} {x2 : Int} {x3 : Int} {xs0 : Int} (hn : 100 ≤ n) (h : (i3 xs0) ∧ ((xs0 = 0) → V miX12_wholes (d + 1) 19 [(0, .ref 53), (1, I_ x1), (2, I_ x2), (3, I_ (x3 + 1))] [] n (W0 dy) g 0 0 P) ∧ ((xs0 ≠ 0) → Runs miX12_isWhole d [.ref 53, I_ x3] n (W0 dy) g (fun v n' S' g' => V miX12_wholes (d + 1) 49 [(0, .ref 53), (1, I_ x1), (2, I_ x2), (3, I_ x3)] (v.toList ++ []) n' S' g' 0 0 P))) : V miX12_wholes (d + 1) 41 [(0, .ref 53), (1, I_ x1), (2, I_ x2), (3, I_ x3)] [I_ xs0] n (W0 dy) g 0 0 P := by
  have c1 := h.1
  have h := h.2
  refine v_if_eq 25 rfl (tgt := 55) rfl c1 (fun q2 => ?_) (fun q2 => ?_)
  · have h := h.1 q2
    refine v_iinc 32 3 [1, 2, 3, 0] rfl rfl (by decide) rfl ?_
    refine v_goto 33 rfl (tgt := 19) rfl ?_
    exact h
  · have h := h.2 q2
    refine v_aload_n 26 0 rfl rfl rfl ?_
    refine v_iload_n 27 3 rfl rfl rfl ?_
    refine v_callV (st := []) [I_ x3] 28 rfl lv12_297_wholes_11 (al 53 rfl hn) (wk53 dy) (by decide) rfl (Nat.le_refl _) (Nat.le_refl _) ?_
    exact h
set_option maxHeartbeats 8000000 in
set_option maxRecDepth 4000 in
theorem bX12_wholes_49 {d n : Nat} {dy : Nat → Shp} {g : Hp} {P : Pst} {x1 : Int} {x2 : Int} {x3 : Int} {xs0 : Int} (hn : 100 ≤ n) (h : (i3 xs0) ∧ ((xs0 ≠ 0) → V miX12_wholes (d + 1) 19 [(0, .ref 53), (1, I_ x1), (2, I_ x2), (3, I_ (x3 + 1))] [] n (W0 dy) g 0 0 P) ∧ ((xs0 = 0) → P (some (I_ 9)) n (W0 dy) g)) : V miX12_wholes (d + 1) 49 [(0, .ref 53), (1, I_ x1), (2, I_ x2), (3, I_ x3)] [I_ xs0] n (W0 dy) g 0 0 P := by
  have c1 := h.1
  have h := h.2
  refine v_if_ne 29 rfl (tgt := 55) rfl c1 (fun q2 => ?_) (fun q2 => ?_)
  · have h := h.1 q2
    refine v_iinc 32 3 [1, 2, 3, 0] rfl rfl (by decide) rfl ?_
    refine v_goto 33 rfl (tgt := 19) rfl ?_
    exact h
  · have h := h.2 q2
    refine v_bipush 30 rfl (by decide) ?_
    exact v_ret (v := some (I_ 9)) 31 rfl (Nat.zero_le _) (Nat.zero_le _) trivial rfl h
theorem wX12_wholes {d n : Nat} {dy : Nat → Shp} {g : Hp} {P : Pst} {x1 : Int} (hn : 100 ≤ n) (h : Runs miX12_topped d [.ref 53, I_ x1] n (W0 dy) g (fun v n' S' g' => V miX12_wholes (d + 1) 5 [(0, .ref 53), (1, I_ x1)] (v.toList ++ []) n' S' g' 0 0 P)) : Runs miX12_wholes (d + 1) [.ref 53, I_ x1] n (W0 dy) g P := Runs.of rfl rfl deX12_wholes (Nat.le_of_ble_eq_true rfl) (bX12_wholes_0 hn h)
theorem fl12_316_11 : FL RX12 316 11 35 false .int := ⟨RX12, TX12, 58, "MobileMakerModel", rfl, rfl, by decide, kf11, tbG_in (List.mem_append_right _ (List.mem_of_getElem? (i := 1162) (by decide +kernel))) rfl, Or.inl rfl, rfl, by decide +kernel, ⟨tyX12, tyX12_ok⟩, nmX12, fun h => by cases h⟩
theorem fl12_94_11 : FL RX12 94 11 36 true (.array .int) := ⟨RX12, TX12, 58, "MobileMakerModel", rfl, rfl, by decide, kf11, tbG_in (List.mem_append_right _ (List.mem_of_getElem? (i := 1163) (by decide +kernel))) rfl, Or.inl rfl, rfl, by decide +kernel, ⟨tyX12, tyX12_ok⟩, nmX12, fun _ => rfl⟩
theorem fl12_97_11 : FL RX12 97 11 37 true (.array .int) := ⟨RX12, TX12, 58, "MobileMakerModel", rfl, rfl, by decide, kf11, tbG_in (List.mem_append_right _ (List.mem_of_getElem? (i := 1164) (by decide +kernel))) rfl, Or.inl rfl, rfl, by decide +kernel, ⟨tyX12, tyX12_ok⟩, nmX12, fun _ => rfl⟩
theorem lv12_313_findPairs_11 : LkV miX12_findPairs miX12_near 313 2 11 := ⟨⟨⟨tbG_in (List.mem_append_right _ (List.mem_of_getElem? (i := 1553) (by decide +kernel))) rfl, tbG_in (List.mem_append_right _ (List.mem_of_getElem? (i := 9) (by decide +kernel))) rfl, tbG_in (List.mem_append_right _ (List.mem_of_getElem? (i := 1550) (by decide +kernel))) rfl⟩, ⟨by decide +kernel, by decide +kernel, by decide +kernel⟩, by decide⟩, tbG_in (List.mem_append_right _ (List.mem_of_getElem? (i := 1552) (by decide +kernel))) rfl, RX12, TX12, 58, rfl, tbG_in (List.mem_append_left _ (List.mem_of_getElem? (i := 78) (by decide +kernel))) rfl⟩
set_option maxHeartbeats 8000000 in
set_option maxRecDepth 4000 in
theorem bX12_findPairs_0 {d n : Nat} {dy : Nat → Shp} {g : Hp} {P : Pst}  (hn : 100 ≤ n) (h : V miX12_findPairs (d + 1) 7 [(0, .ref 53), (1, I_ 0)] [] n (W0 dy) (up2 g 53 35 0) 0 0 P) : V miX12_findPairs (d + 1) 0 [(0, .ref 53)] [] n (W0 dy) g 0 0 P := by
  refine v_aload_n 0 0 rfl rfl rfl ?_
  refine v_iconst 1 rfl ?_
  refine v_putI 2 rfl fl12_316_11 (al 53 rfl hn) (wk53 dy) (by decide) rfl (wc53_35 dy) (by decide) ?_
  refine v_iconst 3 rfl ?_
  refine v_istore_n 4 [1, 0] rfl rfl (by decide) rfl ?_
  exact h
set_option maxHeartbeats 8000000 in
set_option maxRecDepth 4000 in
theorem bX12_findPairs_7 {d n : Nat} {dy : Nat → Shp} {g : Hp} {P : Pst} {x1 : Int} (hn : 100 ≤ n) (h : (i3 x1) ∧ (((g 53 5) ≤ x1) → P none n (W0 dy) g) ∧ ((x1 < (g 53 5)) → (0 ≤ x1 ∧ x1 < 60) ∧ (((g 75 x1.toNat) = 0) → V miX12_findPairs (d + 1) 7 [(0, .ref 53), (1, I_ (x1 + 1))] [] n (W0 dy) g 0 0 P) ∧ (((g 75 x1.toNat) ≠ 0) → (((g 57 x1.toNat) = 1) → V miX12_findPairs (d + 1) 41 [(0, .ref 53), (1, I_ x1), (2, I_ (x1 + 1))] [] n (W0 dy) g 0 0 P) ∧ (((g 57 x1.toNat) ≠ 1) → V miX12_findPairs (d + 1) 7 [(0, .ref 53), (1, I_ (x1 + 1))] [] n (W0 dy) g 0 0 P)))) : V miX12_findPairs (d + 1) 7 [(0, .ref 53), (1, I_ x1)] [] n (W0 dy) g 0 0 P := by
  refine v_iload_n 5 1 rfl rfl rfl ?_
  refine v_aload_n 6 0 rfl rfl rfl ?_
  refine v_gI 7 rfl fl12_169_11.r (al 53 rfl hn) (wk53 dy) (by decide) rfl (wc53_5 dy) (x := g 53 5) rfl ?_
  refine v_rng fun w1 => ?_
  have p2 : i3 (g 53 5) := rI w1 (q := 5) (al 53 rfl hn) (wk53 dy) rfl rfl
  have c3 := h.1
  have h := h.2
  refine v_icmp_ge 8 rfl (tgt := 123) rfl c3 p2 (fun q4 => ?_) (fun q4 => ?_)
  · have h := h.1 q4
    exact v_ret (v := none) 69 rfl (Nat.zero_le _) (Nat.zero_le _) trivial rfl h
  · have h := h.2 q4
    refine v_aload_n 9 0 rfl rfl rfl ?_
    refine v_gK 10 rfl fl12_74_11.r (al 53 rfl hn) (wk53 dy) (by decide) rfl (r := 75) (wc53_24 dy) ?_
    refine v_iload_n 11 1 rfl rfl rfl ?_
    have c5 := h.1
    have h := h.2
    refine v_za (N := 60) 12 rfl (al 75 rfl hn) (wk75 dy) (wn75 dy) (by decide) c5 (y := g 75 x1.toNat) rfl ?_
    refine v_rng fun w6 => ?_
    have p7 : i3 (g 75 x1.toNat) := rI w6 (q := x1.toNat) (al 75 rfl hn) (wk75 dy) rfl rfl
    refine v_if_eq 13 rfl (tgt := 117) rfl p7 (fun q8 => ?_) (fun q8 => ?_)
    · have h := h.1 q8
      refine v_iinc 67 1 [1, 0] rfl rfl (by decide) rfl ?_
      refine v_goto 68 rfl (tgt := 7) rfl ?_
      exact h
    · have h := h.2 q8
      refine v_aload_n 14 0 rfl rfl rfl ?_
      refine v_gK 15 rfl fl12_20_11.r (al 53 rfl hn) (wk53 dy) (by decide) rfl (r := 57) (wc53_6 dy) ?_
      refine v_iload_n 16 1 rfl rfl rfl ?_
      refine v_ia (N := 60) 17 rfl (al 57 rfl hn) (wk57 dy) (wn57 dy) (by decide) c5 (y := g 57 x1.toNat) rfl ?_
      refine v_rng fun w9 => ?_
      have p10 : i3 (g 57 x1.toNat) := rI w9 (q := x1.toNat) (al 57 rfl hn) (wk57 dy) rfl rfl
      refine v_iconst 18 rfl ?_
      refine v_icmp_eq 19 rfl (tgt := 37) rfl p10 (by decide) (fun q11 => ?_) (fun q11 => ?_)
      · have h := h.1 q11
        refine v_iload_n 21 1 rfl rfl rfl ?_
        refine v_iconst 22 rfl ?_
        refine v_iadd 23 rfl ?_
        refine v_istore_n 24 [1, 2, 0] rfl rfl (by decide) rfl ?_
        exact h
      · have h := h.2 q11
        refine v_goto 20 rfl (tgt := 117) rfl ?_
        refine v_iinc 67 1 [1, 0] rfl rfl (by decide) rfl ?_
        refine v_goto 68 rfl (tgt := 7) rfl ?_
        exact h
set_option maxHeartbeats 8000000 in
set_option maxRecDepth 4000 in
theorem bX12_findPairs_41 {d n : Nat} {dy : Nat → Shp} {g : Hp} {P : Pst} {x1 : Int} {x2 : Int} (hn : 100 ≤ n) (h : (i3 x2) ∧ (((g 53 5) ≤ x2) → V miX12_findPairs (d + 1) 7 [(0, .ref 53), (1, I_ (x1 + 1))] [] n (W0 dy) g 0 0 P) ∧ ((x2 < (g 53 5)) → (0 ≤ x2 ∧ x2 < 60) ∧ (((g 75 x2.toNat) = 0) → V miX12_findPairs (d + 1) 41 [(0, .ref 53), (1, I_ x1), (2, I_ (x2 + 1))] [] n (W0 dy) g 0 0 P) ∧ (((g 75 x2.toNat) ≠ 0) → (((g 57 x2.toNat) ≠ 1) → V miX12_findPairs (d + 1) 41 [(0, .ref 53), (1, I_ x1), (2, I_ (x2 + 1))] [] n (W0 dy) g 0 0 P) ∧ (((g 57 x2.toNat) = 1) → Runs miX12_near d [.ref 53, I_ x1, I_ x2] n (W0 dy) g (fun v n' S' g' => V miX12_findPairs (d + 1) 74 [(0, .ref 53), (1, I_ x1), (2, I_ x2)] (v.toList ++ []) n' S' g' 0 0 P))))) : V miX12_findPairs (d + 1) 41 [(0, .ref 53), (1, I_ x1), (2, I_ x2)] [] n (W0 dy) g 0 0 P := by
  refine v_iload_n 25 2 rfl rfl rfl ?_
  refine v_aload_n 26 0 rfl rfl rfl ?_
  refine v_gI 27 rfl fl12_169_11.r (al 53 rfl hn) (wk53 dy) (by decide) rfl (wc53_5 dy) (x := g 53 5) rfl ?_
  refine v_rng fun w1 => ?_
  have p2 : i3 (g 53 5) := rI w1 (q := 5) (al 53 rfl hn) (wk53 dy) rfl rfl
  have c3 := h.1
  have h := h.2
  refine v_icmp_ge 28 rfl (tgt := 117) rfl c3 p2 (fun q4 => ?_) (fun q4 => ?_)
  · have h := h.1 q4
    refine v_iinc 67 1 [1, 0, 2] rfl rfl (by decide) rfl ?_
    refine v_goto 68 rfl (tgt := 7) rfl ?_
    refine v_loc [0, 1] rfl ?_
    exact h
  · have h := h.2 q4
    refine v_aload_n 29 0 rfl rfl rfl ?_
    refine v_gK 30 rfl fl12_74_11.r (al 53 rfl hn) (wk53 dy) (by decide) rfl (r := 75) (wc53_24 dy) ?_
    refine v_iload_n 31 2 rfl rfl rfl ?_
    have c5 := h.1
    have h := h.2
    refine v_za (N := 60) 32 rfl (al 75 rfl hn) (wk75 dy) (wn75 dy) (by decide) c5 (y := g 75 x2.toNat) rfl ?_
    refine v_rng fun w6 => ?_
    have p7 : i3 (g 75 x2.toNat) := rI w6 (q := x2.toNat) (al 75 rfl hn) (wk75 dy) rfl rfl
    refine v_if_eq 33 rfl (tgt := 111) rfl p7 (fun q8 => ?_) (fun q8 => ?_)
    · have h := h.1 q8
      refine v_iinc 65 2 [1, 2, 0] rfl rfl (by decide) rfl ?_
      refine v_goto 66 rfl (tgt := 41) rfl ?_
      exact h
    · have h := h.2 q8
      refine v_aload_n 34 0 rfl rfl rfl ?_
      refine v_gK 35 rfl fl12_20_11.r (al 53 rfl hn) (wk53 dy) (by decide) rfl (r := 57) (wc53_6 dy) ?_
      refine v_iload_n 36 2 rfl rfl rfl ?_
      refine v_ia (N := 60) 37 rfl (al 57 rfl hn) (wk57 dy) (wn57 dy) (by decide) c5 (y := g 57 x2.toNat) rfl ?_
      refine v_rng fun w9 => ?_
      have p10 : i3 (g 57 x2.toNat) := rI w9 (q := x2.toNat) (al 57 rfl hn) (wk57 dy) rfl rfl
      refine v_iconst 38 rfl ?_
      refine v_icmp_ne 39 rfl (tgt := 111) rfl p10 (by decide) (fun q11 => ?_) (fun q11 => ?_)
      · have h := h.1 q11
        refine v_iinc 65 2 [1, 2, 0] rfl rfl (by decide) rfl ?_
        refine v_goto 66 rfl (tgt := 41) rfl ?_
        exact h
      · have h := h.2 q11
        refine v_aload_n 40 0 rfl rfl rfl ?_
        refine v_iload_n 41 1 rfl rfl rfl ?_
        refine v_iload_n 42 2 rfl rfl rfl ?_
        refine v_callV (st := []) [I_ x1, I_ x2] 43 rfl lv12_313_findPairs_11 (al 53 rfl hn) (wk53 dy) (by decide) rfl (Nat.le_refl _) (Nat.le_refl _) ?_
        exact h
set_option maxHeartbeats 8000000 in
set_option maxRecDepth 4000 in
theorem bX12_findPairs_74 {d n : Nat} {dy : Nat → Shp} {g : Hp} {P : Pst} {x1 : Int} {x2 : Int} {xs0 : Int} (hn : 100 ≤ n) (h : (i3 xs0) ∧ ((xs0 = 1) → (0 ≤ g 53 35 ∧ g 53 35 < 1800) ∧ (i3 x1) ∧ (i3 x2) ∧ (i3 ((g 53 35) + 1)) ∧ V miX12_findPairs (d + 1) 41 [(0, .ref 53), (1, I_ x1), (2, I_ (x2 + 1))] [] n (W0 dy) (up2 (up2 (up2 g 81 ((g 53 35).toNat) x1) 82 ((g 53 35).toNat) x2) 53 35 ((g 53 35) + 1)) 0 0 P) ∧ ((xs0 ≠ 1) → V miX12_findPairs (d + 1) 41 [(0, .ref 53), (1, I_ x1), (2, I_ (x2 + 1))] [] n (W0 dy) g 0 0 P)) : V miX12_findPairs (d + 1) 74 [(0, .ref 53), (1, I_ x1), (2, I_ x2)] [I_ xs0] n (W0 dy) g 0 0 P := by
  refine v_iconst 44 rfl ?_
  have c1 := h.1
  have h := h.2
  refine v_icmp_eq 45 rfl (tgt := 81) rfl c1 (by decide) (fun q2 => ?_) (fun q2 => ?_)
  · have h := h.1 q2
    refine v_aload_n 47 0 rfl rfl rfl ?_
    refine v_gK 48 rfl fl12_94_11.r (al 53 rfl hn) (wk53 dy) (by decide) rfl (r := 81) (wc53_36 dy) ?_
    refine v_aload_n 49 0 rfl rfl rfl ?_
    refine v_gI 50 rfl fl12_316_11.r (al 53 rfl hn) (wk53 dy) (by decide) rfl (wc53_35 dy) (x := g 53 35) rfl ?_
    refine v_rng fun w3 => ?_
    have p4 : i3 (g 53 35) := rI w3 (q := 35) (al 53 rfl hn) (wk53 dy) rfl rfl
    refine v_iload_n 51 1 rfl rfl rfl ?_
    have c5 := h.1
    have h := h.2
    have c6 := h.1
    have h := h.2
    refine v_iast (N := 1800) 52 rfl (al 81 rfl hn) (wk81 dy) (wn81 dy) (by decide) c5 c6 ?_
    refine v_aload_n 53 0 rfl rfl rfl ?_
    refine v_gK 54 rfl fl12_97_11.r (al 53 rfl hn) (wk53 dy) (by decide) rfl (r := 82) (wc53_37 dy) ?_
    refine v_aload_n 55 0 rfl rfl rfl ?_
    refine v_gI 56 rfl fl12_316_11.r (al 53 rfl hn) (wk53 dy) (by decide) rfl (wc53_35 dy) (x := g 53 35) rfl ?_
    refine v_rng fun w7 => ?_
    have p8 : i3 (g 53 35) := rI w7 (q := 35) (al 53 rfl hn) (wk53 dy) rfl rfl
    refine v_iload_n 57 2 rfl rfl rfl ?_
    have c9 := h.1
    have h := h.2
    refine v_iast (N := 1800) 58 rfl (al 82 rfl hn) (wk82 dy) (wn82 dy) (by decide) c5 c9 ?_
    refine v_aload_n 59 0 rfl rfl rfl ?_
    refine v_dup 60 rfl (by intro h; cases h) ?_
    refine v_gI 61 rfl fl12_316_11.r (al 53 rfl hn) (wk53 dy) (by decide) rfl (wc53_35 dy) (x := g 53 35) rfl ?_
    refine v_rng fun w10 => ?_
    have p11 : i3 (g 53 35) := rI w10 (q := 35) (al 53 rfl hn) (wk53 dy) rfl rfl
    refine v_iconst 62 rfl ?_
    refine v_iadd 63 rfl ?_
    have c12 := h.1
    have h := h.2
    refine v_putI 64 rfl fl12_316_11 (al 53 rfl hn) (wk53 dy) (by decide) rfl (wc53_35 dy) c12 ?_
    refine v_iinc 65 2 [1, 2, 0] rfl rfl (by decide) rfl ?_
    refine v_goto 66 rfl (tgt := 41) rfl ?_
    exact h
  · have h := h.2 q2
    refine v_goto 46 rfl (tgt := 111) rfl ?_
    refine v_iinc 65 2 [1, 2, 0] rfl rfl (by decide) rfl ?_
    refine v_goto 66 rfl (tgt := 41) rfl ?_
    exact h
theorem wX12_findPairs {d n : Nat} {dy : Nat → Shp} {g : Hp} {P : Pst}  (hn : 100 ≤ n) (h : V miX12_findPairs (d + 1) 7 [(0, .ref 53), (1, I_ 0)] [] n (W0 dy) (up2 g 53 35 0) 0 0 P) : Runs miX12_findPairs (d + 1) [.ref 53] n (W0 dy) g P := Runs.of rfl rfl deX12_findPairs (Nat.le_of_ble_eq_true rfl) (bX12_findPairs_0 hn h)
theorem fl12_100_11 : FL RX12 100 11 38 true (.array .int) := ⟨RX12, TX12, 58, "MobileMakerModel", rfl, rfl, by decide, kf11, tbG_in (List.mem_append_right _ (List.mem_of_getElem? (i := 1165) (by decide +kernel))) rfl, Or.inl rfl, rfl, by decide +kernel, ⟨tyX12, tyX12_ok⟩, nmX12, fun _ => rfl⟩
theorem fl12_103_11 : FL RX12 103 11 39 true (.array .int) := ⟨RX12, TX12, 58, "MobileMakerModel", rfl, rfl, by decide, kf11, tbG_in (List.mem_append_right _ (List.mem_of_getElem? (i := 1166) (by decide +kernel))) rfl, Or.inl rfl, rfl, by decide +kernel, ⟨tyX12, tyX12_ok⟩, nmX12, fun _ => rfl⟩
set_option maxHeartbeats 8000000 in
set_option maxRecDepth 4000 in
theorem bX12_meets_0 {d n : Nat} {dy : Nat → Shp} {g : Hp} {P : Pst}  (hn : 100 ≤ n) (h : V miX12_meets d 7 [(0, .ref 53), (1, I_ ((g 53 5) - 1))] [] n (W0 dy) g 0 0 P) : V miX12_meets d 0 [(0, .ref 53)] [] n (W0 dy) g 0 0 P := by
  refine v_aload_n 0 0 rfl rfl rfl ?_
  refine v_gI 1 rfl fl12_169_11.r (al 53 rfl hn) (wk53 dy) (by decide) rfl (wc53_5 dy) (x := g 53 5) rfl ?_
  refine v_rng fun w1 => ?_
  have p2 : i3 (g 53 5) := rI w1 (q := 5) (al 53 rfl hn) (wk53 dy) rfl rfl
  refine v_iconst 2 rfl ?_
  refine v_isub 3 rfl ?_
  refine v_istore_n 4 [1, 0] rfl rfl (by decide) rfl ?_
  exact h
set_option maxHeartbeats 8000000 in
set_option maxRecDepth 4000 in
theorem bX12_meets_7 {d n : Nat} {dy : Nat → Shp} {g : Hp} {P : Pst} {x1 : Int} (hn : 100 ≤ n) (h : (i3 x1) ∧ ((x1 < 0) → V miX12_meets d 72 [(0, .ref 53), (1, I_ 0), (2, I_ 0)] [] n (W0 dy) g 0 0 P) ∧ ((0 ≤ x1) → (0 ≤ x1 ∧ x1 < 60) ∧ (0 ≤ g 71 x1.toNat ∧ g 71 x1.toNat < 60) ∧ ((0 ≤ (g 60 ((g 71 x1.toNat).toNat))) → (0 ≤ g 60 ((g 71 x1.toNat).toNat) ∧ g 60 ((g 71 x1.toNat).toNat) < 60) ∧ ∀ y19 : Int, y19 = ((g 83 ((g 60 ((g 71 x1.toNat).toNat)).toNat)) + (g 62 ((g 71 x1.toNat).toNat))) + (g 84 ((g 71 x1.toNat).toNat)) → (i3 y19) ∧ V miX12_meets d 7 [(0, .ref 53), (1, I_ (x1 + (-1)))] [] n (W0 dy) (up2 g 83 ((g 71 x1.toNat).toNat) y19) 0 0 P) ∧ (((g 60 ((g 71 x1.toNat).toNat)) < 0) → V miX12_meets d 7 [(0, .ref 53), (1, I_ (x1 + (-1)))] [] n (W0 dy) (up2 g 83 ((g 71 x1.toNat).toNat) 0) 0 0 P))) : V miX12_meets d 7 [(0, .ref 53), (1, I_ x1)] [] n (W0 dy) g 0 0 P := by
  refine v_iload_n 5 1 rfl rfl rfl ?_
  have c1 := h.1
  have h := h.2
  refine v_if_lt 6 rfl (tgt := 68) rfl c1 (fun q2 => ?_) (fun q2 => ?_)
  · have h := h.1 q2
    refine v_iconst 42 rfl ?_
    refine v_istore_n 43 [1, 0] rfl rfl (by decide) rfl ?_
    refine v_iconst 44 rfl ?_
    refine v_istore_n 45 [1, 2, 0] rfl rfl (by decide) rfl ?_
    exact h
  · have h := h.2 q2
    refine v_aload_n 7 0 rfl rfl rfl ?_
    refine v_gK 8 rfl fl12_62_11.r (al 53 rfl hn) (wk53 dy) (by decide) rfl (r := 71) (wc53_20 dy) ?_
    refine v_iload_n 9 1 rfl rfl rfl ?_
    have c3 := h.1
    have h := h.2
    refine v_ia (N := 60) 10 rfl (al 71 rfl hn) (wk71 dy) (wn71 dy) (by decide) c3 (y := g 71 x1.toNat) rfl ?_
    refine v_rng fun w4 => ?_
    have p5 : i3 (g 71 x1.toNat) := rI w4 (q := x1.toNat) (al 71 rfl hn) (wk71 dy) rfl rfl
    refine v_istore_n 11 [1, 2, 0] rfl rfl (by decide) rfl ?_
    refine v_aload_n 12 0 rfl rfl rfl ?_
    refine v_gK 13 rfl fl12_100_11.r (al 53 rfl hn) (wk53 dy) (by decide) rfl (r := 83) (wc53_38 dy) ?_
    refine v_iload_n 14 2 rfl rfl rfl ?_
    refine v_aload_n 15 0 rfl rfl rfl ?_
    refine v_gK 16 rfl fl12_29_11.r (al 53 rfl hn) (wk53 dy) (by decide) rfl (r := 60) (wc53_9 dy) ?_
    refine v_iload_n 17 2 rfl rfl rfl ?_
    have c6 := h.1
    have h := h.2
    refine v_ia (N := 60) 18 rfl (al 60 rfl hn) (wk60 dy) (wn60 dy) (by decide) c6 (y := g 60 ((g 71 x1.toNat).toNat)) rfl ?_
    refine v_rng fun w7 => ?_
    have p8 : i3 (g 60 ((g 71 x1.toNat).toNat)) := rI w7 (q := ((g 71 x1.toNat).toNat)) (al 60 rfl hn) (wk60 dy) rfl rfl
    refine v_if_ge 19 rfl (tgt := 36) rfl p8 (fun q9 => ?_) (fun q9 => ?_)
    · have h := h.1 q9
      refine v_aload_n 22 0 rfl rfl rfl ?_
      refine v_gK 23 rfl fl12_100_11.r (al 53 rfl hn) (wk53 dy) (by decide) rfl (r := 83) (wc53_38 dy) ?_
      refine v_aload_n 24 0 rfl rfl rfl ?_
      refine v_gK 25 rfl fl12_29_11.r (al 53 rfl hn) (wk53 dy) (by decide) rfl (r := 60) (wc53_9 dy) ?_
      refine v_iload_n 26 2 rfl rfl rfl ?_
      refine v_ia (N := 60) 27 rfl (al 60 rfl hn) (wk60 dy) (wn60 dy) (by decide) c6 (y := g 60 ((g 71 x1.toNat).toNat)) rfl ?_
      refine v_rng fun w10 => ?_
      have p11 : i3 (g 60 ((g 71 x1.toNat).toNat)) := rI w10 (q := ((g 71 x1.toNat).toNat)) (al 60 rfl hn) (wk60 dy) rfl rfl
      have c12 := h.1
      have h := h.2
      refine v_ia (N := 60) 28 rfl (al 83 rfl hn) (wk83 dy) (wn83 dy) (by decide) c12 (y := g 83 ((g 60 ((g 71 x1.toNat).toNat)).toNat)) rfl ?_
      refine v_rng fun w13 => ?_
      have p14 : i3 (g 83 ((g 60 ((g 71 x1.toNat).toNat)).toNat)) := rI w13 (q := ((g 60 ((g 71 x1.toNat).toNat)).toNat)) (al 83 rfl hn) (wk83 dy) rfl rfl
      refine v_aload_n 29 0 rfl rfl rfl ?_
      refine v_gK 30 rfl fl12_35_11.r (al 53 rfl hn) (wk53 dy) (by decide) rfl (r := 62) (wc53_11 dy) ?_
      refine v_iload_n 31 2 rfl rfl rfl ?_
      refine v_ia (N := 60) 32 rfl (al 62 rfl hn) (wk62 dy) (wn62 dy) (by decide) c6 (y := g 62 ((g 71 x1.toNat).toNat)) rfl ?_
      refine v_rng fun w15 => ?_
      have p16 : i3 (g 62 ((g 71 x1.toNat).toNat)) := rI w15 (q := ((g 71 x1.toNat).toNat)) (al 62 rfl hn) (wk62 dy) rfl rfl
      refine v_iadd 33 rfl ?_
      refine v_aload_n 34 0 rfl rfl rfl ?_
      refine v_gK 35 rfl fl12_103_11.r (al 53 rfl hn) (wk53 dy) (by decide) rfl (r := 84) (wc53_39 dy) ?_
      refine v_iload_n 36 2 rfl rfl rfl ?_
      refine v_ia (N := 60) 37 rfl (al 84 rfl hn) (wk84 dy) (wn84 dy) (by decide) c6 (y := g 84 ((g 71 x1.toNat).toNat)) rfl ?_
      refine v_rng fun w17 => ?_
      have p18 : i3 (g 84 ((g 71 x1.toNat).toNat)) := rI w17 (q := ((g 71 x1.toNat).toNat)) (al 84 rfl hn) (wk84 dy) rfl rfl
      refine v_iadd 38 rfl ?_
      refine v_nmI (fun y19 ey19 => ?_)
      have h := h y19 ey19
      have c20 := h.1
      have h := h.2
      refine v_iast (N := 60) 39 rfl (al 83 rfl hn) (wk83 dy) (wn83 dy) (by decide) c6 c20 ?_
      refine v_iinc 40 1 [1, 0, 2] rfl rfl (by decide) rfl ?_
      refine v_goto 41 rfl (tgt := 7) rfl ?_
      refine v_loc [0, 1] rfl ?_
      exact h
    · have h := h.2 q9
      refine v_iconst 20 rfl ?_
      refine v_goto 21 rfl (tgt := 61) rfl ?_
      refine v_iast (N := 60) 39 rfl (al 83 rfl hn) (wk83 dy) (wn83 dy) (by decide) c6 (by decide) ?_
      refine v_iinc 40 1 [1, 0, 2] rfl rfl (by decide) rfl ?_
      refine v_goto 41 rfl (tgt := 7) rfl ?_
      refine v_loc [0, 1] rfl ?_
      exact h
set_option maxHeartbeats 8000000 in
set_option maxRecDepth 4000 in
theorem bX12_meets_72 {d n : Nat} {dy : Nat → Shp} {g : Hp} {P : Pst} {x1 : Int} {x2 : Int} (hn : 100 ≤ n) (h : (i3 x2) ∧ (((g 53 35) ≤ x2) → P (some (I_ x1)) n (W0 dy) g) ∧ ((x2 < (g 53 35)) → (0 ≤ x2 ∧ x2 < 1800) ∧ (0 ≤ g 81 x2.toNat ∧ g 81 x2.toNat < 60) ∧ (0 ≤ g 82 x2.toNat ∧ g 82 x2.toNat < 60) ∧ (((g 83 ((g 81 x2.toNat).toNat)) ≠ (g 83 ((g 82 x2.toNat).toNat))) → V miX12_meets d 72 [(0, .ref 53), (1, I_ (x1 + 0)), (2, I_ (x2 + 1))] [] n (W0 dy) g 0 0 P) ∧ (((g 83 ((g 81 x2.toNat).toNat)) = (g 83 ((g 82 x2.toNat).toNat))) → V miX12_meets d 72 [(0, .ref 53), (1, I_ (x1 + 1)), (2, I_ (x2 + 1))] [] n (W0 dy) g 0 0 P))) : V miX12_meets d 72 [(0, .ref 53), (1, I_ x1), (2, I_ x2)] [] n (W0 dy) g 0 0 P := by
  refine v_iload_n 46 2 rfl rfl rfl ?_
  refine v_aload_n 47 0 rfl rfl rfl ?_
  refine v_gI 48 rfl fl12_316_11.r (al 53 rfl hn) (wk53 dy) (by decide) rfl (wc53_35 dy) (x := g 53 35) rfl ?_
  refine v_rng fun w1 => ?_
  have p2 : i3 (g 53 35) := rI w1 (q := 35) (al 53 rfl hn) (wk53 dy) rfl rfl
  have c3 := h.1
  have h := h.2
  refine v_icmp_ge 49 rfl (tgt := 119) rfl c3 p2 (fun q4 => ?_) (fun q4 => ?_)
  · have h := h.1 q4
    refine v_iload_n 73 1 rfl rfl rfl ?_
    exact v_ret (v := some (I_ x1)) 74 rfl (Nat.zero_le _) (Nat.zero_le _) trivial rfl h
  · have h := h.2 q4
    refine v_iload_n 50 1 rfl rfl rfl ?_
    refine v_aload_n 51 0 rfl rfl rfl ?_
    refine v_gK 52 rfl fl12_100_11.r (al 53 rfl hn) (wk53 dy) (by decide) rfl (r := 83) (wc53_38 dy) ?_
    refine v_aload_n 53 0 rfl rfl rfl ?_
    refine v_gK 54 rfl fl12_94_11.r (al 53 rfl hn) (wk53 dy) (by decide) rfl (r := 81) (wc53_36 dy) ?_
    refine v_iload_n 55 2 rfl rfl rfl ?_
    have c5 := h.1
    have h := h.2
    refine v_ia (N := 1800) 56 rfl (al 81 rfl hn) (wk81 dy) (wn81 dy) (by decide) c5 (y := g 81 x2.toNat) rfl ?_
    refine v_rng fun w6 => ?_
    have p7 : i3 (g 81 x2.toNat) := rI w6 (q := x2.toNat) (al 81 rfl hn) (wk81 dy) rfl rfl
    have c8 := h.1
    have h := h.2
    refine v_ia (N := 60) 57 rfl (al 83 rfl hn) (wk83 dy) (wn83 dy) (by decide) c8 (y := g 83 ((g 81 x2.toNat).toNat)) rfl ?_
    refine v_rng fun w9 => ?_
    have p10 : i3 (g 83 ((g 81 x2.toNat).toNat)) := rI w9 (q := ((g 81 x2.toNat).toNat)) (al 83 rfl hn) (wk83 dy) rfl rfl
    refine v_aload_n 58 0 rfl rfl rfl ?_
    refine v_gK 59 rfl fl12_100_11.r (al 53 rfl hn) (wk53 dy) (by decide) rfl (r := 83) (wc53_38 dy) ?_
    refine v_aload_n 60 0 rfl rfl rfl ?_
    refine v_gK 61 rfl fl12_97_11.r (al 53 rfl hn) (wk53 dy) (by decide) rfl (r := 82) (wc53_37 dy) ?_
    refine v_iload_n 62 2 rfl rfl rfl ?_
    refine v_ia (N := 1800) 63 rfl (al 82 rfl hn) (wk82 dy) (wn82 dy) (by decide) c5 (y := g 82 x2.toNat) rfl ?_
    refine v_rng fun w11 => ?_
    have p12 : i3 (g 82 x2.toNat) := rI w11 (q := x2.toNat) (al 82 rfl hn) (wk82 dy) rfl rfl
    have c13 := h.1
    have h := h.2
    refine v_ia (N := 60) 64 rfl (al 83 rfl hn) (wk83 dy) (wn83 dy) (by decide) c13 (y := g 83 ((g 82 x2.toNat).toNat)) rfl ?_
    refine v_rng fun w14 => ?_
    have p15 : i3 (g 83 ((g 82 x2.toNat).toNat)) := rI w14 (q := ((g 82 x2.toNat).toNat)) (al 83 rfl hn) (wk83 dy) rfl rfl
    refine v_icmp_ne 65 rfl (tgt := 110) rfl p10 p15 (fun q16 => ?_) (fun q16 => ?_)
    · have h := h.1 q16
      refine v_iconst 68 rfl ?_
      refine v_iadd 69 rfl ?_
      refine v_istore_n 70 [1, 0, 2] rfl rfl (by decide) rfl ?_
      refine v_iinc 71 2 [1, 2, 0] rfl rfl (by decide) rfl ?_
      refine v_goto 72 rfl (tgt := 72) rfl ?_
      exact h
    · have h := h.2 q16
      refine v_iconst 66 rfl ?_
      refine v_goto 67 rfl (tgt := 111) rfl ?_
      refine v_iadd 69 rfl ?_
      refine v_istore_n 70 [1, 0, 2] rfl rfl (by decide) rfl ?_
      refine v_iinc 71 2 [1, 2, 0] rfl rfl (by decide) rfl ?_
      refine v_goto 72 rfl (tgt := 72) rfl ?_
      exact h
theorem wX12_meets {d n : Nat} {dy : Nat → Shp} {g : Hp} {P : Pst}  (hn : 100 ≤ n) (h : V miX12_meets d 7 [(0, .ref 53), (1, I_ ((g 53 5) - 1))] [] n (W0 dy) g 0 0 P) : Runs miX12_meets d [.ref 53] n (W0 dy) g P := Runs.of rfl rfl deX12_meets (Nat.le_of_ble_eq_true rfl) (bX12_meets_0 hn h)
set_option maxHeartbeats 8000000 in
set_option maxRecDepth 4000 in
theorem bX12_noMore_0 {d n : Nat} {dy : Nat → Shp} {g : Hp} {P : Pst}  (hn : 100 ≤ n) (h : V miX12_noMore d 2 [(0, .ref 53), (1, I_ 0)] [] n (W0 dy) g 0 0 P) : V miX12_noMore d 0 [(0, .ref 53)] [] n (W0 dy) g 0 0 P := by
  refine v_iconst 0 rfl ?_
  refine v_istore_n 1 [1, 0] rfl rfl (by decide) rfl ?_
  exact h
set_option maxHeartbeats 8000000 in
set_option maxRecDepth 4000 in
theorem bX12_noMore_2 {d n : Nat} {dy : Nat → Shp} {g : Hp} {P : Pst} {x1 : Int} (hn : 100 ≤ n) (h : (i3 x1) ∧ (((g 53 5) ≤ x1) → P none n (W0 dy) g) ∧ ((x1 < (g 53 5)) → (0 ≤ x1 ∧ x1 < 60) ∧ V miX12_noMore d 2 [(0, .ref 53), (1, I_ (x1 + 1))] [] n (W0 dy) (up2 g 84 x1.toNat 0) 0 0 P)) : V miX12_noMore d 2 [(0, .ref 53), (1, I_ x1)] [] n (W0 dy) g 0 0 P := by
  refine v_iload_n 2 1 rfl rfl rfl ?_
  refine v_aload_n 3 0 rfl rfl rfl ?_
  refine v_gI 4 rfl fl12_169_11.r (al 53 rfl hn) (wk53 dy) (by decide) rfl (wc53_5 dy) (x := g 53 5) rfl ?_
  refine v_rng fun w1 => ?_
  have p2 : i3 (g 53 5) := rI w1 (q := 5) (al 53 rfl hn) (wk53 dy) rfl rfl
  have c3 := h.1
  have h := h.2
  refine v_icmp_ge 5 rfl (tgt := 23) rfl c3 p2 (fun q4 => ?_) (fun q4 => ?_)
  · have h := h.1 q4
    exact v_ret (v := none) 13 rfl (Nat.zero_le _) (Nat.zero_le _) trivial rfl h
  · have h := h.2 q4
    refine v_aload_n 6 0 rfl rfl rfl ?_
    refine v_gK 7 rfl fl12_103_11.r (al 53 rfl hn) (wk53 dy) (by decide) rfl (r := 84) (wc53_39 dy) ?_
    refine v_iload_n 8 1 rfl rfl rfl ?_
    refine v_iconst 9 rfl ?_
    have c5 := h.1
    have h := h.2
    refine v_iast (N := 60) 10 rfl (al 84 rfl hn) (wk84 dy) (wn84 dy) (by decide) c5 (by decide) ?_
    refine v_iinc 11 1 [1, 0] rfl rfl (by decide) rfl ?_
    refine v_goto 12 rfl (tgt := 2) rfl ?_
    exact h
theorem wX12_noMore {d n : Nat} {dy : Nat → Shp} {g : Hp} {P : Pst}  (hn : 100 ≤ n) (h : V miX12_noMore d 2 [(0, .ref 53), (1, I_ 0)] [] n (W0 dy) g 0 0 P) : Runs miX12_noMore d [.ref 53] n (W0 dy) g P := Runs.of rfl rfl deX12_noMore (Nat.le_of_ble_eq_true rfl) (bX12_noMore_0 hn h)
theorem lv12_319_clashes_11 : LkV miX12_clashes miX12_wholes 319 1 11 := ⟨⟨⟨tbG_in (List.mem_append_right _ (List.mem_of_getElem? (i := 1565) (by decide +kernel))) rfl, tbG_in (List.mem_append_right _ (List.mem_of_getElem? (i := 9) (by decide +kernel))) rfl, tbG_in (List.mem_append_right _ (List.mem_of_getElem? (i := 1562) (by decide +kernel))) rfl⟩, ⟨by decide +kernel, by decide +kernel, by decide +kernel⟩, by decide⟩, tbG_in (List.mem_append_right _ (List.mem_of_getElem? (i := 1564) (by decide +kernel))) rfl, RX12, TX12, 58, rfl, tbG_in (List.mem_append_left _ (List.mem_of_getElem? (i := 80) (by decide +kernel))) rfl⟩
theorem lv12_252_clashes_11 : LkV miX12_clashes miX12_orders 252 0 11 := ⟨⟨⟨tbG_in (List.mem_append_right _ (List.mem_of_getElem? (i := 1469) (by decide +kernel))) rfl, tbG_in (List.mem_append_right _ (List.mem_of_getElem? (i := 9) (by decide +kernel))) rfl, tbG_in (List.mem_append_right _ (List.mem_of_getElem? (i := 1466) (by decide +kernel))) rfl⟩, ⟨by decide +kernel, by decide +kernel, by decide +kernel⟩, by decide⟩, tbG_in (List.mem_append_right _ (List.mem_of_getElem? (i := 1468) (by decide +kernel))) rfl, RX12, TX12, 58, rfl, tbG_in (List.mem_append_left _ (List.mem_of_getElem? (i := 64) (by decide +kernel))) rfl⟩
theorem lv12_322_clashes_11 : LkV miX12_clashes miX12_findPairs 322 0 11 := ⟨⟨⟨tbG_in (List.mem_append_right _ (List.mem_of_getElem? (i := 1569) (by decide +kernel))) rfl, tbG_in (List.mem_append_right _ (List.mem_of_getElem? (i := 9) (by decide +kernel))) rfl, tbG_in (List.mem_append_right _ (List.mem_of_getElem? (i := 1566) (by decide +kernel))) rfl⟩, ⟨by decide +kernel, by decide +kernel, by decide +kernel⟩, by decide⟩, tbG_in (List.mem_append_right _ (List.mem_of_getElem? (i := 1568) (by decide +kernel))) rfl, RX12, TX12, 58, rfl, tbG_in (List.mem_append_left _ (List.mem_of_getElem? (i := 81) (by decide +kernel))) rfl⟩
theorem lv12_325_clashes_11 : LkV miX12_clashes miX12_noMore 325 0 11 := ⟨⟨⟨tbG_in (List.mem_append_right _ (List.mem_of_getElem? (i := 1573) (by decide +kernel))) rfl, tbG_in (List.mem_append_right _ (List.mem_of_getElem? (i := 9) (by decide +kernel))) rfl, tbG_in (List.mem_append_right _ (List.mem_of_getElem? (i := 1570) (by decide +kernel))) rfl⟩, ⟨by decide +kernel, by decide +kernel, by decide +kernel⟩, by decide⟩, tbG_in (List.mem_append_right _ (List.mem_of_getElem? (i := 1572) (by decide +kernel))) rfl, RX12, TX12, 58, rfl, tbG_in (List.mem_append_left _ (List.mem_of_getElem? (i := 82) (by decide +kernel))) rfl⟩
theorem lv12_328_clashes_11 : LkV miX12_clashes miX12_meets 328 0 11 := ⟨⟨⟨tbG_in (List.mem_append_right _ (List.mem_of_getElem? (i := 1577) (by decide +kernel))) rfl, tbG_in (List.mem_append_right _ (List.mem_of_getElem? (i := 9) (by decide +kernel))) rfl, tbG_in (List.mem_append_right _ (List.mem_of_getElem? (i := 1574) (by decide +kernel))) rfl⟩, ⟨by decide +kernel, by decide +kernel, by decide +kernel⟩, by decide⟩, tbG_in (List.mem_append_right _ (List.mem_of_getElem? (i := 1576) (by decide +kernel))) rfl, RX12, TX12, 58, rfl, tbG_in (List.mem_append_left _ (List.mem_of_getElem? (i := 83) (by decide +kernel))) rfl⟩
set_option maxHeartbeats 8000000 in
set_option maxRecDepth 4000 in
theorem bX12_clashes_0 {d n : Nat} {dy : Nat → Shp} {g : Hp} {P : Pst} {x1 : Int} (hn : 100 ≤ n) (h : Runs miX12_wholes d [.ref 53, I_ x1] n (W0 dy) (up2 g 53 1 0) (fun v n' S' g' => V miX12_clashes (d + 1) 11 [(0, .ref 53), (1, I_ x1)] (v.toList ++ [.ref 53]) n' S' g' 0 0 P)) : V miX12_clashes (d + 1) 0 [(0, .ref 53), (1, I_ x1)] [] n (W0 dy) g 0 0 P := by
  refine v_aload_n 0 0 rfl rfl rfl ?_
  refine v_iconst 1 rfl ?_
  refine v_putI 2 rfl fl12_148_11 (al 53 rfl hn) (wk53 dy) (by decide) rfl (wc53_1 dy) (by decide) ?_
  refine v_aload_n 3 0 rfl rfl rfl ?_
  refine v_aload_n 4 0 rfl rfl rfl ?_
  refine v_iload_n 5 1 rfl rfl rfl ?_
  refine v_callV (st := [.ref 53]) [I_ x1] 6 rfl lv12_319_clashes_11 (al 53 rfl hn) (wk53 dy) (by decide) rfl (Nat.le_refl _) (Nat.le_refl _) ?_
  exact h
set_option maxHeartbeats 8000000 in
set_option maxRecDepth 4000 in
theorem bX12_clashes_11 {d n : Nat} {dy : Nat → Shp} {g : Hp} {P : Pst} {x1 : Int} {xs1 : Int} (hn : 100 ≤ n) (h : (i3 xs1) ∧ ((xs1 ≤ 0) → Runs miX12_orders d [.ref 53] n (W0 dy) (up2 g 53 0 xs1) (fun v n' S' g' => V miX12_clashes (d + 1) 27 [(0, .ref 53), (1, I_ x1)] (v.toList ++ []) n' S' g' 0 0 P)) ∧ ((0 < xs1) → P (some (I_ ((-1)))) n (W0 dy) (up2 g 53 0 xs1))) : V miX12_clashes (d + 1) 11 [(0, .ref 53), (1, I_ x1)] [I_ xs1, .ref 53] n (W0 dy) g 0 0 P := by
  have c1 := h.1
  have h := h.2
  refine v_putI 7 rfl fl12_152_11 (al 53 rfl hn) (wk53 dy) (by decide) rfl (wc53_0 dy) c1 ?_
  refine v_aload_n 8 0 rfl rfl rfl ?_
  refine v_gI 9 rfl fl12_152_11.r (al 53 rfl hn) (wk53 dy) (by decide) rfl (wc53_0 dy) (x := xs1) rfl ?_
  refine v_rng fun w2 => ?_
  have p3 : i3 (xs1) := rI w2 (q := 0) (al 53 rfl hn) (wk53 dy) rfl rfl
  refine v_if_le 10 rfl (tgt := 23) rfl p3 (fun q4 => ?_) (fun q4 => ?_)
  · have h := h.1 q4
    refine v_aload_n 13 0 rfl rfl rfl ?_
    refine v_callV (st := []) [] 14 rfl lv12_252_clashes_11 (al 53 rfl hn) (wk53 dy) (by decide) rfl (Nat.le_refl _) (Nat.le_refl _) ?_
    exact h
  · have h := h.2 q4
    refine v_iconst 11 rfl ?_
    exact v_ret (v := some (I_ ((-1)))) 12 rfl (Nat.zero_le _) (Nat.zero_le _) trivial rfl h
set_option maxHeartbeats 8000000 in
set_option maxRecDepth 4000 in
theorem bX12_clashes_27 {d n : Nat} {dy : Nat → Shp} {g : Hp} {P : Pst} {x1 : Int} (hn : 100 ≤ n) (h : Runs miX12_findPairs d [.ref 53] n (W0 dy) g (fun v n' S' g' => V miX12_clashes (d + 1) 31 [(0, .ref 53), (1, I_ x1)] (v.toList ++ []) n' S' g' 0 0 P)) : V miX12_clashes (d + 1) 27 [(0, .ref 53), (1, I_ x1)] [] n (W0 dy) g 0 0 P := by
  refine v_aload_n 15 0 rfl rfl rfl ?_
  refine v_callV (st := []) [] 16 rfl lv12_322_clashes_11 (al 53 rfl hn) (wk53 dy) (by decide) rfl (Nat.le_refl _) (Nat.le_refl _) ?_
  exact h
set_option maxHeartbeats 8000000 in
set_option maxRecDepth 4000 in
theorem bX12_clashes_31 {d n : Nat} {dy : Nat → Shp} {g : Hp} {P : Pst} {x1 : Int} (hn : 100 ≤ n) (h : Runs miX12_noMore d [.ref 53] n (W0 dy) g (fun v n' S' g' => V miX12_clashes (d + 1) 35 [(0, .ref 53), (1, I_ x1)] (v.toList ++ []) n' S' g' 0 0 P)) : V miX12_clashes (d + 1) 31 [(0, .ref 53), (1, I_ x1)] [] n (W0 dy) g 0 0 P := by
  refine v_aload_n 17 0 rfl rfl rfl ?_
  refine v_callV (st := []) [] 18 rfl lv12_325_clashes_11 (al 53 rfl hn) (wk53 dy) (by decide) rfl (Nat.le_refl _) (Nat.le_refl _) ?_
  exact h
set_option maxHeartbeats 8000000 in
set_option maxRecDepth 4000 in
theorem bX12_clashes_35 {d n : Nat} {dy : Nat → Shp} {g : Hp} {P : Pst} {x1 : Int} (hn : 100 ≤ n) (h : Runs miX12_meets d [.ref 53] n (W0 dy) g (fun v n' S' g' => V miX12_clashes (d + 1) 39 [(0, .ref 53), (1, I_ x1)] (v.toList ++ []) n' S' g' 0 0 P)) : V miX12_clashes (d + 1) 35 [(0, .ref 53), (1, I_ x1)] [] n (W0 dy) g 0 0 P := by
  refine v_aload_n 19 0 rfl rfl rfl ?_
  refine v_callV (st := []) [] 20 rfl lv12_328_clashes_11 (al 53 rfl hn) (wk53 dy) (by decide) rfl (Nat.le_refl _) (Nat.le_refl _) ?_
  exact h
set_option maxHeartbeats 8000000 in
set_option maxRecDepth 4000 in
theorem bX12_clashes_39 {d n : Nat} {dy : Nat → Shp} {g : Hp} {P : Pst} {x1 : Int} {xs0 : Int} (hn : 100 ≤ n) (h : P (some (I_ xs0)) n (W0 dy) g) : V miX12_clashes (d + 1) 39 [(0, .ref 53), (1, I_ x1)] [I_ xs0] n (W0 dy) g 0 0 P := by
  exact v_ret (v := some (I_ xs0)) 21 rfl (Nat.zero_le _) (Nat.zero_le _) trivial rfl h
theorem wX12_clashes {d n : Nat} {dy : Nat → Shp} {g : Hp} {P : Pst} {x1 : Int} (hn : 100 ≤ n) (h : Runs miX12_wholes d [.ref 53, I_ x1] n (W0 dy) (up2 g 53 1 0) (fun v n' S' g' => V miX12_clashes (d + 1) 11 [(0, .ref 53), (1, I_ x1)] (v.toList ++ [.ref 53]) n' S' g' 0 0 P)) : Runs miX12_clashes (d + 1) [.ref 53, I_ x1] n (W0 dy) g P := Runs.of rfl rfl deX12_clashes (Nat.le_of_ble_eq_true rfl) (bX12_clashes_0 hn h)
theorem fl12_106_11 : FL RX12 106 11 40 true (.array .int) := ⟨RX12, TX12, 58, "MobileMakerModel", rfl, rfl, by decide, kf11, tbG_in (List.mem_append_right _ (List.mem_of_getElem? (i := 1167) (by decide +kernel))) rfl, Or.inl rfl, rfl, by decide +kernel, ⟨tyX12, tyX12_ok⟩, nmX12, fun _ => rfl⟩
theorem lv12_319_clear_11 : LkV miX12_clear miX12_wholes 319 1 11 := ⟨⟨⟨tbG_in (List.mem_append_right _ (List.mem_of_getElem? (i := 1565) (by decide +kernel))) rfl, tbG_in (List.mem_append_right _ (List.mem_of_getElem? (i := 9) (by decide +kernel))) rfl, tbG_in (List.mem_append_right _ (List.mem_of_getElem? (i := 1562) (by decide +kernel))) rfl⟩, ⟨by decide +kernel, by decide +kernel, by decide +kernel⟩, by decide⟩, tbG_in (List.mem_append_right _ (List.mem_of_getElem? (i := 1564) (by decide +kernel))) rfl, RX12, TX12, 58, rfl, tbG_in (List.mem_append_left _ (List.mem_of_getElem? (i := 80) (by decide +kernel))) rfl⟩
theorem lv12_252_clear_11 : LkV miX12_clear miX12_orders 252 0 11 := ⟨⟨⟨tbG_in (List.mem_append_right _ (List.mem_of_getElem? (i := 1469) (by decide +kernel))) rfl, tbG_in (List.mem_append_right _ (List.mem_of_getElem? (i := 9) (by decide +kernel))) rfl, tbG_in (List.mem_append_right _ (List.mem_of_getElem? (i := 1466) (by decide +kernel))) rfl⟩, ⟨by decide +kernel, by decide +kernel, by decide +kernel⟩, by decide⟩, tbG_in (List.mem_append_right _ (List.mem_of_getElem? (i := 1468) (by decide +kernel))) rfl, RX12, TX12, 58, rfl, tbG_in (List.mem_append_left _ (List.mem_of_getElem? (i := 64) (by decide +kernel))) rfl⟩
theorem lv12_322_clear_11 : LkV miX12_clear miX12_findPairs 322 0 11 := ⟨⟨⟨tbG_in (List.mem_append_right _ (List.mem_of_getElem? (i := 1569) (by decide +kernel))) rfl, tbG_in (List.mem_append_right _ (List.mem_of_getElem? (i := 9) (by decide +kernel))) rfl, tbG_in (List.mem_append_right _ (List.mem_of_getElem? (i := 1566) (by decide +kernel))) rfl⟩, ⟨by decide +kernel, by decide +kernel, by decide +kernel⟩, by decide⟩, tbG_in (List.mem_append_right _ (List.mem_of_getElem? (i := 1568) (by decide +kernel))) rfl, RX12, TX12, 58, rfl, tbG_in (List.mem_append_left _ (List.mem_of_getElem? (i := 81) (by decide +kernel))) rfl⟩
theorem lv12_174_clear_11 : LkV miX12_clear miX12_refuse 174 1 11 := ⟨⟨⟨tbG_in (List.mem_append_right _ (List.mem_of_getElem? (i := 1351) (by decide +kernel))) rfl, tbG_in (List.mem_append_right _ (List.mem_of_getElem? (i := 9) (by decide +kernel))) rfl, tbG_in (List.mem_append_right _ (List.mem_of_getElem? (i := 1348) (by decide +kernel))) rfl⟩, ⟨by decide +kernel, by decide +kernel, by decide +kernel⟩, by decide⟩, tbG_in (List.mem_append_right _ (List.mem_of_getElem? (i := 1350) (by decide +kernel))) rfl, RX12, TX12, 58, rfl, tbG_in (List.mem_append_left _ (List.mem_of_getElem? (i := 50) (by decide +kernel))) rfl⟩
theorem lv12_325_clear_11 : LkV miX12_clear miX12_noMore 325 0 11 := ⟨⟨⟨tbG_in (List.mem_append_right _ (List.mem_of_getElem? (i := 1573) (by decide +kernel))) rfl, tbG_in (List.mem_append_right _ (List.mem_of_getElem? (i := 9) (by decide +kernel))) rfl, tbG_in (List.mem_append_right _ (List.mem_of_getElem? (i := 1570) (by decide +kernel))) rfl⟩, ⟨by decide +kernel, by decide +kernel, by decide +kernel⟩, by decide⟩, tbG_in (List.mem_append_right _ (List.mem_of_getElem? (i := 1572) (by decide +kernel))) rfl, RX12, TX12, 58, rfl, tbG_in (List.mem_append_left _ (List.mem_of_getElem? (i := 82) (by decide +kernel))) rfl⟩
theorem lv12_331_clear_11 : LkV miX12_clear miX12_areThreads 331 1 11 := ⟨⟨⟨tbG_in (List.mem_append_right _ (List.mem_of_getElem? (i := 1585) (by decide +kernel))) rfl, tbG_in (List.mem_append_right _ (List.mem_of_getElem? (i := 9) (by decide +kernel))) rfl, tbG_in (List.mem_append_right _ (List.mem_of_getElem? (i := 1582) (by decide +kernel))) rfl⟩, ⟨by decide +kernel, by decide +kernel, by decide +kernel⟩, by decide⟩, tbG_in (List.mem_append_right _ (List.mem_of_getElem? (i := 1584) (by decide +kernel))) rfl, RX12, TX12, 58, rfl, tbG_in (List.mem_append_left _ (List.mem_of_getElem? (i := 84) (by decide +kernel))) rfl⟩
theorem lv12_337_clear_11 : LkV miX12_clear miX12_nextChoice 337 1 11 := ⟨⟨⟨tbG_in (List.mem_append_right _ (List.mem_of_getElem? (i := 1593) (by decide +kernel))) rfl, tbG_in (List.mem_append_right _ (List.mem_of_getElem? (i := 9) (by decide +kernel))) rfl, tbG_in (List.mem_append_right _ (List.mem_of_getElem? (i := 1590) (by decide +kernel))) rfl⟩, ⟨by decide +kernel, by decide +kernel, by decide +kernel⟩, by decide⟩, tbG_in (List.mem_append_right _ (List.mem_of_getElem? (i := 1592) (by decide +kernel))) rfl, RX12, TX12, 58, rfl, tbG_in (List.mem_append_left _ (List.mem_of_getElem? (i := 86) (by decide +kernel))) rfl⟩
theorem lv12_328_clear_11 : LkV miX12_clear miX12_meets 328 0 11 := ⟨⟨⟨tbG_in (List.mem_append_right _ (List.mem_of_getElem? (i := 1577) (by decide +kernel))) rfl, tbG_in (List.mem_append_right _ (List.mem_of_getElem? (i := 9) (by decide +kernel))) rfl, tbG_in (List.mem_append_right _ (List.mem_of_getElem? (i := 1574) (by decide +kernel))) rfl⟩, ⟨by decide +kernel, by decide +kernel, by decide +kernel⟩, by decide⟩, tbG_in (List.mem_append_right _ (List.mem_of_getElem? (i := 1576) (by decide +kernel))) rfl, RX12, TX12, 58, rfl, tbG_in (List.mem_append_left _ (List.mem_of_getElem? (i := 83) (by decide +kernel))) rfl⟩
theorem lv12_334_clear_11 : LkV miX12_clear miX12_lengthen 334 2 11 := ⟨⟨⟨tbG_in (List.mem_append_right _ (List.mem_of_getElem? (i := 1589) (by decide +kernel))) rfl, tbG_in (List.mem_append_right _ (List.mem_of_getElem? (i := 9) (by decide +kernel))) rfl, tbG_in (List.mem_append_right _ (List.mem_of_getElem? (i := 1586) (by decide +kernel))) rfl⟩, ⟨by decide +kernel, by decide +kernel, by decide +kernel⟩, by decide⟩, tbG_in (List.mem_append_right _ (List.mem_of_getElem? (i := 1588) (by decide +kernel))) rfl, RX12, TX12, 58, rfl, tbG_in (List.mem_append_left _ (List.mem_of_getElem? (i := 85) (by decide +kernel))) rfl⟩
set_option maxHeartbeats 8000000 in
set_option maxRecDepth 4000 in
theorem bX12_clear_0 {d n : Nat} {dy : Nat → Shp} {g : Hp} {P : Pst} {x1 : Int} (hn : 100 ≤ n) (h : Runs miX12_wholes d [.ref 53, I_ x1] n (W0 dy) (up2 g 53 1 0) (fun v n' S' g' => V miX12_clear (d + 1) 11 [(0, .ref 53), (1, I_ x1)] (v.toList ++ [.ref 53]) n' S' g' 0 0 P)) : V miX12_clear (d + 1) 0 [(0, .ref 53), (1, I_ x1)] [] n (W0 dy) g 0 0 P := by
  refine v_aload_n 0 0 rfl rfl rfl ?_
  refine v_iconst 1 rfl ?_
  refine v_putI 2 rfl fl12_148_11 (al 53 rfl hn) (wk53 dy) (by decide) rfl (wc53_1 dy) (by decide) ?_
  refine v_aload_n 3 0 rfl rfl rfl ?_
  refine v_aload_n 4 0 rfl rfl rfl ?_
  refine v_iload_n 5 1 rfl rfl rfl ?_
  refine v_callV (st := [.ref 53]) [I_ x1] 6 rfl lv12_319_clear_11 (al 53 rfl hn) (wk53 dy) (by decide) rfl (Nat.le_refl _) (Nat.le_refl _) ?_
  exact h
set_option maxHeartbeats 8000000 in
set_option maxRecDepth 4000 in
theorem bX12_clear_11 {d n : Nat} {dy : Nat → Shp} {g : Hp} {P : Pst} {x1 : Int} {xs1 : Int} (hn : 100 ≤ n) (h : (i3 xs1) ∧ ((xs1 ≤ 0) → Runs miX12_orders d [.ref 53] n (W0 dy) (up2 g 53 0 xs1) (fun v n' S' g' => V miX12_clear (d + 1) 27 [(0, .ref 53), (1, I_ x1)] (v.toList ++ []) n' S' g' 0 0 P)) ∧ ((0 < xs1) → P (some (I_ ((-1)))) n (W0 dy) (up2 g 53 0 xs1))) : V miX12_clear (d + 1) 11 [(0, .ref 53), (1, I_ x1)] [I_ xs1, .ref 53] n (W0 dy) g 0 0 P := by
  have c1 := h.1
  have h := h.2
  refine v_putI 7 rfl fl12_152_11 (al 53 rfl hn) (wk53 dy) (by decide) rfl (wc53_0 dy) c1 ?_
  refine v_aload_n 8 0 rfl rfl rfl ?_
  refine v_gI 9 rfl fl12_152_11.r (al 53 rfl hn) (wk53 dy) (by decide) rfl (wc53_0 dy) (x := xs1) rfl ?_
  refine v_rng fun w2 => ?_
  have p3 : i3 (xs1) := rI w2 (q := 0) (al 53 rfl hn) (wk53 dy) rfl rfl
  refine v_if_le 10 rfl (tgt := 23) rfl p3 (fun q4 => ?_) (fun q4 => ?_)
  · have h := h.1 q4
    refine v_aload_n 13 0 rfl rfl rfl ?_
    refine v_callV (st := []) [] 14 rfl lv12_252_clear_11 (al 53 rfl hn) (wk53 dy) (by decide) rfl (Nat.le_refl _) (Nat.le_refl _) ?_
    exact h
  · have h := h.2 q4
    refine v_iconst 11 rfl ?_
    exact v_ret (v := some (I_ ((-1)))) 12 rfl (Nat.zero_le _) (Nat.zero_le _) trivial rfl h
set_option maxHeartbeats 8000000 in
set_option maxRecDepth 4000 in
theorem bX12_clear_27 {d n : Nat} {dy : Nat → Shp} {g : Hp} {P : Pst} {x1 : Int} (hn : 100 ≤ n) (h : Runs miX12_findPairs d [.ref 53] n (W0 dy) g (fun v n' S' g' => V miX12_clear (d + 1) 31 [(0, .ref 53), (1, I_ x1)] (v.toList ++ []) n' S' g' 0 0 P)) : V miX12_clear (d + 1) 27 [(0, .ref 53), (1, I_ x1)] [] n (W0 dy) g 0 0 P := by
  refine v_aload_n 15 0 rfl rfl rfl ?_
  refine v_callV (st := []) [] 16 rfl lv12_322_clear_11 (al 53 rfl hn) (wk53 dy) (by decide) rfl (Nat.le_refl _) (Nat.le_refl _) ?_
  exact h
set_option maxHeartbeats 8000000 in
set_option maxRecDepth 4000 in
theorem bX12_clear_31 {d n : Nat} {dy : Nat → Shp} {g : Hp} {P : Pst} {x1 : Int} (hn : 100 ≤ n) (h : V miX12_clear (d + 1) 35 [(0, .ref 53), (1, I_ x1), (2, I_ 0), (3, I_ 0)] [] n (W0 dy) g 0 0 P) : V miX12_clear (d + 1) 31 [(0, .ref 53), (1, I_ x1)] [] n (W0 dy) g 0 0 P := by
  refine v_iconst 17 rfl ?_
  refine v_istore_n 18 [1, 2, 0] rfl rfl (by decide) rfl ?_
  refine v_iconst 19 rfl ?_
  refine v_istore_n 20 [1, 2, 3, 0] rfl rfl (by decide) rfl ?_
  exact h
set_option maxHeartbeats 8000000 in
set_option maxRecDepth 4000 in
theorem bX12_clear_35 {d n : Nat} {dy : Nat → Shp} {g : Hp} {P : Pst} {x1 : Int} {x2 : Int} {x3 : Int} (hn : 100 ≤ n) (h : (i3 x3) ∧ (((g 53 5) ≤ x3) → V miX12_clear (d + 1) 97 [(0, .ref 53), (1, I_ x1), (2, I_ x2), (3, I_ 0), (4, I_ 0)] [] n (W0 dy) g 0 0 P) ∧ ((x3 < (g 53 5)) → (0 ≤ x3 ∧ x3 < 60) ∧ (((g 75 x3.toNat) = 0) → V miX12_clear (d + 1) 35 [(0, .ref 53), (1, I_ x1), (2, I_ x2), (3, I_ (x3 + 1))] [] n (W0 dy) g 0 0 P) ∧ (((g 75 x3.toNat) ≠ 0) → (((g 60 x3.toNat) < 0) → V miX12_clear (d + 1) 35 [(0, .ref 53), (1, I_ x1), (2, I_ x2), (3, I_ (x3 + 1))] [] n (W0 dy) g 0 0 P) ∧ ((0 ≤ (g 60 x3.toNat)) → (((g 62 x3.toNat) < 1000) → (0 ≤ x2 ∧ x2 < 60) ∧ V miX12_clear (d + 1) 35 [(0, .ref 53), (1, I_ x1), (2, I_ (x2 + 1)), (3, I_ (x3 + 1))] [] n (W0 dy) (up2 g 85 x2.toNat x3) 0 0 P) ∧ ((1000 ≤ (g 62 x3.toNat)) → V miX12_clear (d + 1) 35 [(0, .ref 53), (1, I_ x1), (2, I_ x2), (3, I_ (x3 + 1))] [] n (W0 dy) g 0 0 P))))) : V miX12_clear (d + 1) 35 [(0, .ref 53), (1, I_ x1), (2, I_ x2), (3, I_ x3)] [] n (W0 dy) g 0 0 P := by
  refine v_iload_n 21 3 rfl rfl rfl ?_
  refine v_aload_n 22 0 rfl rfl rfl ?_
  refine v_gI 23 rfl fl12_169_11.r (al 53 rfl hn) (wk53 dy) (by decide) rfl (wc53_5 dy) (x := g 53 5) rfl ?_
  refine v_rng fun w1 => ?_
  have p2 : i3 (g 53 5) := rI w1 (q := 5) (al 53 rfl hn) (wk53 dy) rfl rfl
  have c3 := h.1
  have h := h.2
  refine v_icmp_ge 24 rfl (tgt := 92) rfl c3 p2 (fun q4 => ?_) (fun q4 => ?_)
  · have h := h.1 q4
    refine v_iconst 50 rfl ?_
    refine v_istore_n 51 [1, 2, 3, 0] rfl rfl (by decide) rfl ?_
    refine v_iconst 52 rfl ?_
    refine v_istore 53 [1, 2, 3, 4, 0] rfl (by decide) rfl ?_
    exact h
  · have h := h.2 q4
    refine v_aload_n 25 0 rfl rfl rfl ?_
    refine v_gK 26 rfl fl12_74_11.r (al 53 rfl hn) (wk53 dy) (by decide) rfl (r := 75) (wc53_24 dy) ?_
    refine v_iload_n 27 3 rfl rfl rfl ?_
    have c5 := h.1
    have h := h.2
    refine v_za (N := 60) 28 rfl (al 75 rfl hn) (wk75 dy) (wn75 dy) (by decide) c5 (y := g 75 x3.toNat) rfl ?_
    refine v_rng fun w6 => ?_
    have p7 : i3 (g 75 x3.toNat) := rI w6 (q := x3.toNat) (al 75 rfl hn) (wk75 dy) rfl rfl
    refine v_if_eq 29 rfl (tgt := 86) rfl p7 (fun q8 => ?_) (fun q8 => ?_)
    · have h := h.1 q8
      refine v_iinc 48 3 [1, 2, 3, 0] rfl rfl (by decide) rfl ?_
      refine v_goto 49 rfl (tgt := 35) rfl ?_
      exact h
    · have h := h.2 q8
      refine v_aload_n 30 0 rfl rfl rfl ?_
      refine v_gK 31 rfl fl12_29_11.r (al 53 rfl hn) (wk53 dy) (by decide) rfl (r := 60) (wc53_9 dy) ?_
      refine v_iload_n 32 3 rfl rfl rfl ?_
      refine v_ia (N := 60) 33 rfl (al 60 rfl hn) (wk60 dy) (wn60 dy) (by decide) c5 (y := g 60 x3.toNat) rfl ?_
      refine v_rng fun w9 => ?_
      have p10 : i3 (g 60 x3.toNat) := rI w9 (q := x3.toNat) (al 60 rfl hn) (wk60 dy) rfl rfl
      refine v_if_lt 34 rfl (tgt := 86) rfl p10 (fun q11 => ?_) (fun q11 => ?_)
      · have h := h.1 q11
        refine v_iinc 48 3 [1, 2, 3, 0] rfl rfl (by decide) rfl ?_
        refine v_goto 49 rfl (tgt := 35) rfl ?_
        exact h
      · have h := h.2 q11
        refine v_aload_n 35 0 rfl rfl rfl ?_
        refine v_gK 36 rfl fl12_35_11.r (al 53 rfl hn) (wk53 dy) (by decide) rfl (r := 62) (wc53_11 dy) ?_
        refine v_iload_n 37 3 rfl rfl rfl ?_
        refine v_ia (N := 60) 38 rfl (al 62 rfl hn) (wk62 dy) (wn62 dy) (by decide) c5 (y := g 62 x3.toNat) rfl ?_
        refine v_rng fun w12 => ?_
        have p13 : i3 (g 62 x3.toNat) := rI w12 (q := x3.toNat) (al 62 rfl hn) (wk62 dy) rfl rfl
        refine v_sipush 39 rfl (by decide) ?_
        refine v_icmp_lt 40 rfl (tgt := 76) rfl p13 (by decide) (fun q14 => ?_) (fun q14 => ?_)
        · have h := h.1 q14
          refine v_aload_n 42 0 rfl rfl rfl ?_
          refine v_gK 43 rfl fl12_106_11.r (al 53 rfl hn) (wk53 dy) (by decide) rfl (r := 85) (wc53_40 dy) ?_
          refine v_iload_n 44 2 rfl rfl rfl ?_
          refine v_iload_n 45 3 rfl rfl rfl ?_
          have c15 := h.1
          have h := h.2
          refine v_iast (N := 60) 46 rfl (al 85 rfl hn) (wk85 dy) (wn85 dy) (by decide) c15 c3 ?_
          refine v_iinc 47 2 [1, 2, 0, 3] rfl rfl (by decide) rfl ?_
          refine v_iinc 48 3 [1, 2, 3, 0] rfl rfl (by decide) rfl ?_
          refine v_goto 49 rfl (tgt := 35) rfl ?_
          exact h
        · have h := h.2 q14
          refine v_goto 41 rfl (tgt := 86) rfl ?_
          refine v_iinc 48 3 [1, 2, 3, 0] rfl rfl (by decide) rfl ?_
          refine v_goto 49 rfl (tgt := 35) rfl ?_
          exact h
set_option maxHeartbeats 8000000 in
set_option maxRecDepth 4000 in
theorem bX12_clear_97 {d n : Nat} {dy : Nat → Shp} {g : Hp} {P : Pst} {x1 : Int} {x2 : Int} {x3 : Int} {x4 : Int} (hn : 100 ≤ n) (h : (i3 x4) ∧ ((5 < x4) → Runs miX12_refuse d [.ref 53, I_ 11] n (W0 dy) g (fun v n' S' g' => V miX12_clear (d + 1) 207 [(0, .ref 53), (1, I_ x1), (2, I_ x2), (3, I_ x3), (4, I_ x4)] (v.toList ++ []) n' S' g' 0 0 P)) ∧ ((x4 ≤ 5) → Runs miX12_noMore d [.ref 53] n (W0 dy) g (fun v n' S' g' => V miX12_clear (d + 1) 107 [(0, .ref 53), (1, I_ x1), (2, I_ x2), (3, I_ x3), (4, I_ x4)] (v.toList ++ []) n' S' g' 0 0 P))) : V miX12_clear (d + 1) 97 [(0, .ref 53), (1, I_ x1), (2, I_ x2), (3, I_ x3), (4, I_ x4)] [] n (W0 dy) g 0 0 P := by
  refine v_iload 54 4 rfl rfl ?_
  refine v_iconst 55 rfl ?_
  have c1 := h.1
  have h := h.2
  refine v_icmp_gt 56 rfl (tgt := 201) rfl c1 (by decide) (fun q2 => ?_) (fun q2 => ?_)
  · have h := h.1 q2
    refine v_aload_n 106 0 rfl rfl rfl ?_
    refine v_bipush 107 rfl (by decide) ?_
    refine v_callV (st := []) [I_ 11] 108 rfl lv12_174_clear_11 (al 53 rfl hn) (wk53 dy) (by decide) rfl (Nat.le_refl _) (Nat.le_refl _) ?_
    exact h
  · have h := h.2 q2
    refine v_aload_n 57 0 rfl rfl rfl ?_
    refine v_callV (st := []) [] 58 rfl lv12_325_clear_11 (al 53 rfl hn) (wk53 dy) (by decide) rfl (Nat.le_refl _) (Nat.le_refl _) ?_
    exact h
set_option maxHeartbeats 8000000 in
set_option maxRecDepth 4000 in
theorem bX12_clear_107 {d n : Nat} {dy : Nat → Shp} {g : Hp} {P : Pst} {x1 : Int} {x2 : Int} {x3 : Int} {x4 : Int} (hn : 100 ≤ n) (h : (i3 x2) ∧ ((0 < x2) → ((x2 ≤ 0) → V miX12_clear (d + 1) 140 [(0, .ref 53), (1, I_ x1), (2, I_ x2), (3, I_ x3), (4, I_ x4), (5, I_ 1)] [] n (W0 dy) g 0 0 P) ∧ ((0 < x2) → (0 ≤ g 85 0 ∧ g 85 0 < 60) ∧ (i3 x4) ∧ V miX12_clear (d + 1) 140 [(0, .ref 53), (1, I_ x1), (2, I_ x2), (3, I_ x3), (4, I_ x4), (5, I_ 1)] [] n (W0 dy) (up2 g 84 ((g 85 0).toNat) x4) 0 0 P)) ∧ ((x2 ≤ 0) → (i3 x4) ∧ ((x4 ≠ 0) → ((x2 ≤ 0) → V miX12_clear (d + 1) 140 [(0, .ref 53), (1, I_ x1), (2, I_ x2), (3, I_ x3), (4, I_ x4), (5, I_ 0)] [] n (W0 dy) g 0 0 P) ∧ ((0 < x2) → (0 ≤ g 85 0 ∧ g 85 0 < 60) ∧ V miX12_clear (d + 1) 140 [(0, .ref 53), (1, I_ x1), (2, I_ x2), (3, I_ x3), (4, I_ x4), (5, I_ 0)] [] n (W0 dy) (up2 g 84 ((g 85 0).toNat) x4) 0 0 P)) ∧ ((x4 = 0) → ((x2 ≤ 0) → V miX12_clear (d + 1) 140 [(0, .ref 53), (1, I_ x1), (2, I_ x2), (3, I_ x3), (4, I_ x4), (5, I_ 1)] [] n (W0 dy) g 0 0 P) ∧ ((0 < x2) → (0 ≤ g 85 0 ∧ g 85 0 < 60) ∧ V miX12_clear (d + 1) 140 [(0, .ref 53), (1, I_ x1), (2, I_ x2), (3, I_ x3), (4, I_ x4), (5, I_ 1)] [] n (W0 dy) (up2 g 84 ((g 85 0).toNat) x4) 0 0 P)))) : V miX12_clear (d + 1) 107 [(0, .ref 53), (1, I_ x1), (2, I_ x2), (3, I_ x3), (4, I_ x4)] [] n (W0 dy) g 0 0 P := by
  refine v_iload_n 59 2 rfl rfl rfl ?_
  have c1 := h.1
  have h := h.2
  refine v_if_gt 60 rfl (tgt := 116) rfl c1 (fun q2 => ?_) (fun q2 => ?_)
  · have h := h.1 q2
    refine v_iconst 63 rfl ?_
    refine v_goto 64 rfl (tgt := 121) rfl ?_
    refine v_istore 66 [1, 2, 3, 4, 5, 0] rfl (by decide) rfl ?_
    refine v_iload_n 67 2 rfl rfl rfl ?_
    refine v_if_le 68 rfl (tgt := 140) rfl c1 (fun q3 => ?_) (fun q3 => ?_)
    · have h := h.1 q3
      exact h
    · have h := h.2 q3
      refine v_aload_n 69 0 rfl rfl rfl ?_
      refine v_gK 70 rfl fl12_103_11.r (al 53 rfl hn) (wk53 dy) (by decide) rfl (r := 84) (wc53_39 dy) ?_
      refine v_aload_n 71 0 rfl rfl rfl ?_
      refine v_gK 72 rfl fl12_106_11.r (al 53 rfl hn) (wk53 dy) (by decide) rfl (r := 85) (wc53_40 dy) ?_
      refine v_iconst 73 rfl ?_
      refine v_ia (N := 60) 74 rfl (al 85 rfl hn) (wk85 dy) (wn85 dy) (by decide) (by decide) (y := g 85 0) rfl ?_
      refine v_rng fun w4 => ?_
      have p5 : i3 (g 85 0) := rI w4 (q := 0) (al 85 rfl hn) (wk85 dy) rfl rfl
      refine v_iload 75 4 rfl rfl ?_
      have c6 := h.1
      have h := h.2
      have c7 := h.1
      have h := h.2
      refine v_iast (N := 60) 76 rfl (al 84 rfl hn) (wk84 dy) (wn84 dy) (by decide) c6 c7 ?_
      exact h
  · have h := h.2 q2
    refine v_iload 61 4 rfl rfl ?_
    have c8 := h.1
    have h := h.2
    refine v_if_ne 62 rfl (tgt := 120) rfl c8 (fun q9 => ?_) (fun q9 => ?_)
    · have h := h.1 q9
      refine v_iconst 65 rfl ?_
      refine v_istore 66 [1, 2, 3, 4, 5, 0] rfl (by decide) rfl ?_
      refine v_iload_n 67 2 rfl rfl rfl ?_
      refine v_if_le 68 rfl (tgt := 140) rfl c1 (fun q10 => ?_) (fun q10 => ?_)
      · have h := h.1 q10
        exact h
      · have h := h.2 q10
        refine v_aload_n 69 0 rfl rfl rfl ?_
        refine v_gK 70 rfl fl12_103_11.r (al 53 rfl hn) (wk53 dy) (by decide) rfl (r := 84) (wc53_39 dy) ?_
        refine v_aload_n 71 0 rfl rfl rfl ?_
        refine v_gK 72 rfl fl12_106_11.r (al 53 rfl hn) (wk53 dy) (by decide) rfl (r := 85) (wc53_40 dy) ?_
        refine v_iconst 73 rfl ?_
        refine v_ia (N := 60) 74 rfl (al 85 rfl hn) (wk85 dy) (wn85 dy) (by decide) (by decide) (y := g 85 0) rfl ?_
        refine v_rng fun w11 => ?_
        have p12 : i3 (g 85 0) := rI w11 (q := 0) (al 85 rfl hn) (wk85 dy) rfl rfl
        refine v_iload 75 4 rfl rfl ?_
        have c13 := h.1
        have h := h.2
        refine v_iast (N := 60) 76 rfl (al 84 rfl hn) (wk84 dy) (wn84 dy) (by decide) c13 c8 ?_
        exact h
    · have h := h.2 q9
      refine v_iconst 63 rfl ?_
      refine v_goto 64 rfl (tgt := 121) rfl ?_
      refine v_istore 66 [1, 2, 3, 4, 5, 0] rfl (by decide) rfl ?_
      refine v_iload_n 67 2 rfl rfl rfl ?_
      refine v_if_le 68 rfl (tgt := 140) rfl c1 (fun q14 => ?_) (fun q14 => ?_)
      · have h := h.1 q14
        exact h
      · have h := h.2 q14
        refine v_aload_n 69 0 rfl rfl rfl ?_
        refine v_gK 70 rfl fl12_103_11.r (al 53 rfl hn) (wk53 dy) (by decide) rfl (r := 84) (wc53_39 dy) ?_
        refine v_aload_n 71 0 rfl rfl rfl ?_
        refine v_gK 72 rfl fl12_106_11.r (al 53 rfl hn) (wk53 dy) (by decide) rfl (r := 85) (wc53_40 dy) ?_
        refine v_iconst 73 rfl ?_
        refine v_ia (N := 60) 74 rfl (al 85 rfl hn) (wk85 dy) (wn85 dy) (by decide) (by decide) (y := g 85 0) rfl ?_
        refine v_rng fun w15 => ?_
        have p16 : i3 (g 85 0) := rI w15 (q := 0) (al 85 rfl hn) (wk85 dy) rfl rfl
        refine v_iload 75 4 rfl rfl ?_
        have c17 := h.1
        have h := h.2
        refine v_iast (N := 60) 76 rfl (al 84 rfl hn) (wk84 dy) (wn84 dy) (by decide) c17 c8 ?_
        exact h
set_option maxHeartbeats 8000000 in
set_option maxRecDepth 4000 in
theorem bX12_clear_140 {d n : Nat} {dy : Nat → Shp} {g : Hp} {P : Pst} {x1 : Int} {x2 : Int} {x3 : Int} {x4 : Int} {x5 : Int} (hn : 100 ≤ n) (h : (i3 x5) ∧ ((x5 = 0) → V miX12_clear (d + 1) 97 [(0, .ref 53), (1, I_ x1), (2, I_ x2), (3, I_ x3), (4, I_ (x4 + 1))] [] n (W0 dy) g 0 0 P) ∧ ((x5 ≠ 0) → Runs miX12_areThreads d [.ref 53, I_ x2] n (W0 dy) g (fun v n' S' g' => V miX12_clear (d + 1) 150 [(0, .ref 53), (1, I_ x1), (2, I_ x2), (3, I_ x3), (4, I_ x4), (5, I_ x5)] (v.toList ++ []) n' S' g' 0 0 P))) : V miX12_clear (d + 1) 140 [(0, .ref 53), (1, I_ x1), (2, I_ x2), (3, I_ x3), (4, I_ x4), (5, I_ x5)] [] n (W0 dy) g 0 0 P := by
  refine v_iload 77 5 rfl rfl ?_
  have c1 := h.1
  have h := h.2
  refine v_if_eq 78 rfl (tgt := 195) rfl c1 (fun q2 => ?_) (fun q2 => ?_)
  · have h := h.1 q2
    refine v_iinc 104 4 [1, 2, 3, 4, 0, 5] rfl rfl (by decide) rfl ?_
    refine v_goto 105 rfl (tgt := 97) rfl ?_
    refine v_loc [0, 1, 2, 3, 4] rfl ?_
    exact h
  · have h := h.2 q2
    refine v_aload_n 79 0 rfl rfl rfl ?_
    refine v_iload_n 80 2 rfl rfl rfl ?_
    refine v_callV (st := []) [I_ x2] 81 rfl lv12_331_clear_11 (al 53 rfl hn) (wk53 dy) (by decide) rfl (Nat.le_refl _) (Nat.le_refl _) ?_
    exact h
set_option maxHeartbeats 8000000 in
set_option maxRecDepth 4000 in
theorem bX12_clear_150 {d n : Nat} {dy : Nat → Shp} {g : Hp} {P : Pst} {x1 : Int} {x2 : Int} {x3 : Int} {x4 : Int} {x5 : Int} {xs0 : Int} (hn : 100 ≤ n) (h : (i3 xs0) ∧ ((xs0 = 0) → Runs miX12_nextChoice d [.ref 53, I_ x2] n (W0 dy) g (fun v n' S' g' => V miX12_clear (d + 1) 190 [(0, .ref 53), (1, I_ x1), (2, I_ x2), (3, I_ x3), (4, I_ x4), (5, I_ x5)] (v.toList ++ []) n' S' g' 0 0 P)) ∧ ((xs0 ≠ 0) → (i3 x3) ∧ ((x3 ≠ 20000) → Runs miX12_meets d [.ref 53] n (W0 dy) g (fun v n' S' g' => V miX12_clear (d + 1) 174 [(0, .ref 53), (1, I_ x1), (2, I_ x2), (3, I_ (x3 + 1)), (4, I_ x4), (5, I_ x5)] (v.toList ++ []) n' S' g' 0 0 P)) ∧ ((x3 = 20000) → Runs miX12_refuse d [.ref 53, I_ 10] n (W0 dy) g (fun v n' S' g' => V miX12_clear (d + 1) 166 [(0, .ref 53), (1, I_ x1), (2, I_ x2), (3, I_ x3), (4, I_ x4), (5, I_ x5)] (v.toList ++ []) n' S' g' 0 0 P)))) : V miX12_clear (d + 1) 150 [(0, .ref 53), (1, I_ x1), (2, I_ x2), (3, I_ x3), (4, I_ x4), (5, I_ x5)] [I_ xs0] n (W0 dy) g 0 0 P := by
  have c1 := h.1
  have h := h.2
  refine v_if_eq 82 rfl (tgt := 185) rfl c1 (fun q2 => ?_) (fun q2 => ?_)
  · have h := h.1 q2
    refine v_aload_n 99 0 rfl rfl rfl ?_
    refine v_iload_n 100 2 rfl rfl rfl ?_
    refine v_callV (st := []) [I_ x2] 101 rfl lv12_337_clear_11 (al 53 rfl hn) (wk53 dy) (by decide) rfl (Nat.le_refl _) (Nat.le_refl _) ?_
    exact h
  · have h := h.2 q2
    refine v_iload_n 83 3 rfl rfl rfl ?_
    refine v_sipush 84 rfl (by decide) ?_
    have c3 := h.1
    have h := h.2
    refine v_icmp_ne 85 rfl (tgt := 167) rfl c3 (by decide) (fun q4 => ?_) (fun q4 => ?_)
    · have h := h.1 q4
      refine v_iinc 90 3 [1, 2, 3, 0, 4, 5] rfl rfl (by decide) rfl ?_
      refine v_aload_n 91 0 rfl rfl rfl ?_
      refine v_callV (st := []) [] 92 rfl lv12_328_clear_11 (al 53 rfl hn) (wk53 dy) (by decide) rfl (Nat.le_refl _) (Nat.le_refl _) ?_
      exact h
    · have h := h.2 q4
      refine v_aload_n 86 0 rfl rfl rfl ?_
      refine v_bipush 87 rfl (by decide) ?_
      refine v_callV (st := []) [I_ 10] 88 rfl lv12_174_clear_11 (al 53 rfl hn) (wk53 dy) (by decide) rfl (Nat.le_refl _) (Nat.le_refl _) ?_
      exact h
set_option maxHeartbeats 8000000 in
set_option maxRecDepth 4000 in
theorem bX12_clear_166 {d n : Nat} {dy : Nat → Shp} {g : Hp} {P : Pst} {x1 : Int} {x2 : Int} {x3 : Int} {x4 : Int} {x5 : Int} {xs0 : Int} (hn : 100 ≤ n) (h : P (some (I_ xs0)) n (W0 dy) g) : V miX12_clear (d + 1) 166 [(0, .ref 53), (1, I_ x1), (2, I_ x2), (3, I_ x3), (4, I_ x4), (5, I_ x5)] [I_ xs0] n (W0 dy) g 0 0 P := by
  exact v_ret (v := some (I_ xs0)) 89 rfl (Nat.zero_le _) (Nat.zero_le _) trivial rfl h
set_option maxHeartbeats 8000000 in
set_option maxRecDepth 4000 in
theorem bX12_clear_174 {d n : Nat} {dy : Nat → Shp} {g : Hp} {P : Pst} {x1 : Int} {x2 : Int} {x3 : Int} {x4 : Int} {x5 : Int} {xs0 : Int} (hn : 100 ≤ n) (h : (i3 xs0) ∧ ((xs0 ≠ 0) → Runs miX12_nextChoice d [.ref 53, I_ x2] n (W0 dy) g (fun v n' S' g' => V miX12_clear (d + 1) 190 [(0, .ref 53), (1, I_ x1), (2, I_ x2), (3, I_ x3), (4, I_ x4), (5, I_ x5)] (v.toList ++ []) n' S' g' 0 0 P)) ∧ ((xs0 = 0) → Runs miX12_lengthen d [.ref 53, I_ x2, I_ x4] n (W0 dy) g (fun v n' S' g' => V miX12_clear (d + 1) 184 [(0, .ref 53), (1, I_ x1), (2, I_ x2), (3, I_ x3), (4, I_ x4), (5, I_ x5)] (v.toList ++ []) n' S' g' 0 0 P))) : V miX12_clear (d + 1) 174 [(0, .ref 53), (1, I_ x1), (2, I_ x2), (3, I_ x3), (4, I_ x4), (5, I_ x5)] [I_ xs0] n (W0 dy) g 0 0 P := by
  have c1 := h.1
  have h := h.2
  refine v_if_ne 93 rfl (tgt := 185) rfl c1 (fun q2 => ?_) (fun q2 => ?_)
  · have h := h.1 q2
    refine v_aload_n 99 0 rfl rfl rfl ?_
    refine v_iload_n 100 2 rfl rfl rfl ?_
    refine v_callV (st := []) [I_ x2] 101 rfl lv12_337_clear_11 (al 53 rfl hn) (wk53 dy) (by decide) rfl (Nat.le_refl _) (Nat.le_refl _) ?_
    exact h
  · have h := h.2 q2
    refine v_aload_n 94 0 rfl rfl rfl ?_
    refine v_iload_n 95 2 rfl rfl rfl ?_
    refine v_iload 96 4 rfl rfl ?_
    refine v_callV (st := []) [I_ x2, I_ x4] 97 rfl lv12_334_clear_11 (al 53 rfl hn) (wk53 dy) (by decide) rfl (Nat.le_refl _) (Nat.le_refl _) ?_
    exact h
set_option maxHeartbeats 8000000 in
set_option maxRecDepth 4000 in
theorem bX12_clear_184 {d n : Nat} {dy : Nat → Shp} {g : Hp} {P : Pst} {x1 : Int} {x2 : Int} {x3 : Int} {x4 : Int} {x5 : Int} {xs0 : Int} (hn : 100 ≤ n) (h : P (some (I_ xs0)) n (W0 dy) g) : V miX12_clear (d + 1) 184 [(0, .ref 53), (1, I_ x1), (2, I_ x2), (3, I_ x3), (4, I_ x4), (5, I_ x5)] [I_ xs0] n (W0 dy) g 0 0 P := by
  exact v_ret (v := some (I_ xs0)) 98 rfl (Nat.zero_le _) (Nat.zero_le _) trivial rfl h
set_option maxHeartbeats 8000000 in
set_option maxRecDepth 4000 in
theorem bX12_clear_190 {d n : Nat} {dy : Nat → Shp} {g : Hp} {P : Pst} {x1 : Int} {x2 : Int} {x3 : Int} {x4 : Int} {x5 : Int} {xs0 : Int} (hn : 100 ≤ n) (h : V miX12_clear (d + 1) 140 [(0, .ref 53), (1, I_ x1), (2, I_ x2), (3, I_ x3), (4, I_ x4), (5, I_ xs0)] [] n (W0 dy) g 0 0 P) : V miX12_clear (d + 1) 190 [(0, .ref 53), (1, I_ x1), (2, I_ x2), (3, I_ x3), (4, I_ x4), (5, I_ x5)] [I_ xs0] n (W0 dy) g 0 0 P := by
  refine v_istore 102 [1, 2, 3, 4, 5, 0] rfl (by decide) rfl ?_
  refine v_goto 103 rfl (tgt := 140) rfl ?_
  exact h
set_option maxHeartbeats 8000000 in
set_option maxRecDepth 4000 in
theorem bX12_clear_207 {d n : Nat} {dy : Nat → Shp} {g : Hp} {P : Pst} {x1 : Int} {x2 : Int} {x3 : Int} {x4 : Int} {xs0 : Int} (hn : 100 ≤ n) (h : P (some (I_ xs0)) n (W0 dy) g) : V miX12_clear (d + 1) 207 [(0, .ref 53), (1, I_ x1), (2, I_ x2), (3, I_ x3), (4, I_ x4)] [I_ xs0] n (W0 dy) g 0 0 P := by
  exact v_ret (v := some (I_ xs0)) 109 rfl (Nat.zero_le _) (Nat.zero_le _) trivial rfl h
theorem wX12_clear {d n : Nat} {dy : Nat → Shp} {g : Hp} {P : Pst} {x1 : Int} (hn : 100 ≤ n) (h : Runs miX12_wholes d [.ref 53, I_ x1] n (W0 dy) (up2 g 53 1 0) (fun v n' S' g' => V miX12_clear (d + 1) 11 [(0, .ref 53), (1, I_ x1)] (v.toList ++ [.ref 53]) n' S' g' 0 0 P)) : Runs miX12_clear (d + 1) [.ref 53, I_ x1] n (W0 dy) g P := Runs.of rfl rfl deX12_clear (Nat.le_of_ble_eq_true rfl) (bX12_clear_0 hn h)
