set_option maxHeartbeats 8000000 in
set_option maxRecDepth 4000 in
theorem bX3_fullSet_0 {d n : Nat} {dy : Nat → Shp} {g : Hp} {P : Pst}  (hn : 100 ≤ n) (h : P (some (I_ ((shl3 1 (g 18 1)) - 1))) n (W0 dy) g) : V miX3_fullSet d 0 [(0, .ref 18)] [] n (W0 dy) g 0 0 P := by
  refine v_iconst 0 rfl ?_
  refine v_aload_n 1 0 rfl rfl rfl ?_
  refine v_gI 2 rfl fl3_15_2.r (al 18 rfl hn) (wk18 dy) (by decide) rfl (wc18_1 dy) (x := g 18 1) rfl ?_
  refine v_rng fun w1 => ?_
  have p2 : i3 (g 18 1) := rI w1 (q := 1) (al 18 rfl hn) (wk18 dy) rfl rfl
  refine v_ishl 3 rfl ?_
  refine v_iconst 4 rfl ?_
  refine v_isub 5 rfl ?_
  exact v_ret (v := some (I_ ((shl3 1 (g 18 1)) - 1))) 6 rfl (Nat.zero_le _) (Nat.zero_le _) trivial rfl h
theorem wX3_fullSet {d n : Nat} {dy : Nat → Shp} {g : Hp} {P : Pst}  (hn : 100 ≤ n) (h : P (some (I_ ((shl3 1 (g 18 1)) - 1))) n (W0 dy) g) : Runs miX3_fullSet d [.ref 18] n (W0 dy) g P := Runs.of rfl rfl deX3_fullSet (Nat.le_of_ble_eq_true rfl) (bX3_fullSet_0 hn h)
theorem fl3_71_8 : FL RX3 71 8 1 false .int := ⟨RX9, TX9, 3, "MobileMaker$Tray", rfl, rfl, by decide, kf8, tbG_in (List.mem_append_right _ (List.mem_of_getElem? (i := 205) (by decide +kernel))) rfl, Or.inl rfl, rfl, by decide +kernel, ⟨tyX9, tyX9_ok⟩, nmX9, fun h => by cases h⟩
theorem lm3_76_takeNumbers : LkM miX3_takeNumbers 76 Lib.Math.min.name Lib.Math.min.code 2 .int := ⟨tbG_in (List.mem_append_right _ (List.mem_of_getElem? (i := 908) (by decide +kernel))) rfl, tbG_in (List.mem_append_right _ (List.mem_of_getElem? (i := 500) (by decide +kernel))) rfl, tbG_in (List.mem_append_right _ (List.mem_of_getElem? (i := 15) (by decide +kernel))) rfl, tbG_in (List.mem_append_right _ (List.mem_of_getElem? (i := 501) (by decide +kernel))) rfl⟩
theorem fl3_9_2 : FL RX3 9 2 0 true (.array .int) := ⟨RX3, TX3, 11, "MobileMaker$Parting", rfl, rfl, by decide, kf2, tbG_in (List.mem_append_right _ (List.mem_of_getElem? (i := 138) (by decide +kernel))) rfl, Or.inl rfl, rfl, by decide +kernel, ⟨tyX3, tyX3_ok⟩, nmX3, fun _ => rfl⟩
theorem lv3_82_takeNumbers_8 : LkV miX3_takeNumbers miX9_at 82 1 8 := ⟨⟨⟨tbG_in (List.mem_append_right _ (List.mem_of_getElem? (i := 310) (by decide +kernel))) rfl, tbG_in (List.mem_append_right _ (List.mem_of_getElem? (i := 8) (by decide +kernel))) rfl, tbG_in (List.mem_append_right _ (List.mem_of_getElem? (i := 909) (by decide +kernel))) rfl⟩, ⟨by decide +kernel, by decide +kernel, by decide +kernel⟩, by decide⟩, tbG_in (List.mem_append_right _ (List.mem_of_getElem? (i := 308) (by decide +kernel))) rfl, RX9, TX9, 3, rfl, tbG_in (List.mem_append_right _ (List.mem_of_getElem? (i := 309) (by decide +kernel))) rfl⟩
set_option maxHeartbeats 8000000 in
set_option maxRecDepth 4000 in
theorem bX3_takeNumbers_0 {d n : Nat} {dy : Nat → Shp} {g : Hp} {P : Pst} {r1 : Nat} (hn : 100 ≤ n) (h : (Tr n (W0 dy) r1) ∧ V miX3_takeNumbers (d + 1) 15 [(0, .ref 18), (1, .ref r1), (2, I_ 0)] [] n (W0 dy) (up2 g 18 1 (min (g r1 1) 10)) 0 0 P) : V miX3_takeNumbers (d + 1) 0 [(0, .ref 18), (1, .ref r1)] [] n (W0 dy) g 0 0 P := by
  refine v_aload_n 0 0 rfl rfl rfl ?_
  refine v_aload_n 1 1 rfl rfl rfl ?_
  have c1 := h.1
  have h := h.2
  refine v_gI 2 rfl fl3_71_8.r c1.1 c1.2.1 (by decide) rfl c1.2.2.2.1 (x := g r1 1) rfl ?_
  refine v_rng fun w2 => ?_
  have p3 : i3 (g r1 1) := rI w2 (q := 1) c1.1 c1.2.1 rfl rfl
  refine v_bipush 3 rfl (by decide) ?_
  refine v_mmin (st := [.ref 18]) 4 rfl lm3_76_takeNumbers rfl (Nat.zero_le _) (Nat.zero_le _) p3 (by decide) ?_
  refine v_putI 5 rfl fl3_15_2 (al 18 rfl hn) (wk18 dy) (by decide) rfl (wc18_1 dy) (min_i3 p3 (by decide)) ?_
  refine v_iconst 6 rfl ?_
  refine v_istore_n 7 [1, 2, 0] rfl rfl (by decide) rfl ?_
  exact h
set_option maxHeartbeats 8000000 in
set_option maxRecDepth 4000 in
theorem bX3_takeNumbers_15 {d n : Nat} {dy : Nat → Shp} {g : Hp} {P : Pst} {r1 : Nat} {x2 : Int} (hn : 100 ≤ n) (h : (i3 x2) ∧ (((g 18 1) ≤ x2) → P none n (W0 dy) g) ∧ ((x2 < (g 18 1)) → (Tr n (W0 dy) r1) ∧ Runs miX9_at d [.ref r1, I_ x2] n (W0 dy) g (fun v n' S' g' => V miX3_takeNumbers (d + 1) 33 [(0, .ref 18), (1, .ref r1), (2, I_ x2)] (v.toList ++ [I_ x2, .ref 19]) n' S' g' 0 0 P))) : V miX3_takeNumbers (d + 1) 15 [(0, .ref 18), (1, .ref r1), (2, I_ x2)] [] n (W0 dy) g 0 0 P := by
  refine v_iload_n 8 2 rfl rfl rfl ?_
  refine v_aload_n 9 0 rfl rfl rfl ?_
  refine v_gI 10 rfl fl3_15_2.r (al 18 rfl hn) (wk18 dy) (by decide) rfl (wc18_1 dy) (x := g 18 1) rfl ?_
  refine v_rng fun w1 => ?_
  have p2 : i3 (g 18 1) := rI w1 (q := 1) (al 18 rfl hn) (wk18 dy) rfl rfl
  have c3 := h.1
  have h := h.2
  refine v_icmp_ge 11 rfl (tgt := 41) rfl c3 p2 (fun q4 => ?_) (fun q4 => ?_)
  · have h := h.1 q4
    exact v_ret (v := none) 22 rfl (Nat.zero_le _) (Nat.zero_le _) trivial rfl h
  · have h := h.2 q4
    refine v_aload_n 12 0 rfl rfl rfl ?_
    refine v_gK 13 rfl fl3_9_2.r (al 18 rfl hn) (wk18 dy) (by decide) rfl (r := 19) (wc18_0 dy) ?_
    refine v_iload_n 14 2 rfl rfl rfl ?_
    refine v_aload_n 15 1 rfl rfl rfl ?_
    refine v_iload_n 16 2 rfl rfl rfl ?_
    have c5 := h.1
    have h := h.2
    refine v_callV (st := [I_ x2, .ref 19]) [I_ x2] 17 rfl lv3_82_takeNumbers_8 c5.1 c5.2.1 (by decide) rfl (Nat.le_refl _) (Nat.le_refl _) ?_
    exact h
set_option maxHeartbeats 8000000 in
set_option maxRecDepth 4000 in
theorem bX3_takeNumbers_33 {d n : Nat} {dy : Nat → Shp} {g : Hp} {P : Pst} {r1 : Nat} {x2 : Int} {xs1 : Int} {xs2 : Int} (hn : 100 ≤ n) (h : (0 ≤ xs1 ∧ xs1 < 10) ∧ (i3 xs2) ∧ V miX3_takeNumbers (d + 1) 15 [(0, .ref 18), (1, .ref r1), (2, I_ (x2 + 1))] [] n (W0 dy) (up2 g 19 xs1.toNat xs2) 0 0 P) : V miX3_takeNumbers (d + 1) 33 [(0, .ref 18), (1, .ref r1), (2, I_ x2)] [L_ xs2, I_ xs1, .ref 19] n (W0 dy) g 0 0 P := by
  refine v_l2i 18 rfl ?_
  have c1 := h.1
  have h := h.2
  have c2 := h.1
  have h := h.2
  refine v_iast (N := 10) 19 rfl (al 19 rfl hn) (wk19 dy) (wn19 dy) (by decide) c1 c2 ?_
  refine v_iinc 20 2 [1, 2, 0] rfl rfl (by decide) rfl ?_
  refine v_goto 21 rfl (tgt := 15) rfl ?_
  exact h
theorem wX3_takeNumbers {d n : Nat} {dy : Nat → Shp} {g : Hp} {P : Pst} {r1 : Nat} (hn : 100 ≤ n) (h : (Tr n (W0 dy) r1) ∧ V miX3_takeNumbers (d + 1) 15 [(0, .ref 18), (1, .ref r1), (2, I_ 0)] [] n (W0 dy) (up2 g 18 1 (min (g r1 1) 10)) 0 0 P) : Runs miX3_takeNumbers (d + 1) [.ref 18, .ref r1] n (W0 dy) g P := Runs.of rfl rfl deX3_takeNumbers (Nat.le_of_ble_eq_true rfl) (bX3_takeNumbers_0 hn h)
set_option maxHeartbeats 8000000 in
set_option maxRecDepth 4000 in
theorem bX3_sumOfNumbers_0 {d n : Nat} {dy : Nat → Shp} {g : Hp} {P : Pst}  (hn : 100 ≤ n) (h : V miX3_sumOfNumbers d 4 [(0, .ref 18), (1, I_ 0), (2, I_ 0)] [] n (W0 dy) g 0 0 P) : V miX3_sumOfNumbers d 0 [(0, .ref 18)] [] n (W0 dy) g 0 0 P := by
  refine v_iconst 0 rfl ?_
  refine v_istore_n 1 [1, 0] rfl rfl (by decide) rfl ?_
  refine v_iconst 2 rfl ?_
  refine v_istore_n 3 [1, 2, 0] rfl rfl (by decide) rfl ?_
  exact h
set_option maxHeartbeats 8000000 in
set_option maxRecDepth 4000 in
theorem bX3_sumOfNumbers_4 {d n : Nat} {dy : Nat → Shp} {g : Hp} {P : Pst} {x1 : Int} {x2 : Int} (hn : 100 ≤ n) (h : (i3 x2) ∧ (((g 18 1) ≤ x2) → P (some (I_ x1)) n (W0 dy) g) ∧ ((x2 < (g 18 1)) → (0 ≤ x2 ∧ x2 < 10) ∧ V miX3_sumOfNumbers d 4 [(0, .ref 18), (1, I_ (x1 + (g 19 x2.toNat))), (2, I_ (x2 + 1))] [] n (W0 dy) g 0 0 P)) : V miX3_sumOfNumbers d 4 [(0, .ref 18), (1, I_ x1), (2, I_ x2)] [] n (W0 dy) g 0 0 P := by
  refine v_iload_n 4 2 rfl rfl rfl ?_
  refine v_aload_n 5 0 rfl rfl rfl ?_
  refine v_gI 6 rfl fl3_15_2.r (al 18 rfl hn) (wk18 dy) (by decide) rfl (wc18_1 dy) (x := g 18 1) rfl ?_
  refine v_rng fun w1 => ?_
  have p2 : i3 (g 18 1) := rI w1 (q := 1) (al 18 rfl hn) (wk18 dy) rfl rfl
  have c3 := h.1
  have h := h.2
  refine v_icmp_ge 7 rfl (tgt := 27) rfl c3 p2 (fun q4 => ?_) (fun q4 => ?_)
  · have h := h.1 q4
    refine v_iload_n 17 1 rfl rfl rfl ?_
    exact v_ret (v := some (I_ x1)) 18 rfl (Nat.zero_le _) (Nat.zero_le _) trivial rfl h
  · have h := h.2 q4
    refine v_iload_n 8 1 rfl rfl rfl ?_
    refine v_aload_n 9 0 rfl rfl rfl ?_
    refine v_gK 10 rfl fl3_9_2.r (al 18 rfl hn) (wk18 dy) (by decide) rfl (r := 19) (wc18_0 dy) ?_
    refine v_iload_n 11 2 rfl rfl rfl ?_
    have c5 := h.1
    have h := h.2
    refine v_ia (N := 10) 12 rfl (al 19 rfl hn) (wk19 dy) (wn19 dy) (by decide) c5 (y := g 19 x2.toNat) rfl ?_
    refine v_rng fun w6 => ?_
    have p7 : i3 (g 19 x2.toNat) := rI w6 (q := x2.toNat) (al 19 rfl hn) (wk19 dy) rfl rfl
    refine v_iadd 13 rfl ?_
    refine v_istore_n 14 [1, 0, 2] rfl rfl (by decide) rfl ?_
    refine v_iinc 15 2 [1, 2, 0] rfl rfl (by decide) rfl ?_
    refine v_goto 16 rfl (tgt := 4) rfl ?_
    exact h
theorem wX3_sumOfNumbers {d n : Nat} {dy : Nat → Shp} {g : Hp} {P : Pst}  (hn : 100 ≤ n) (h : V miX3_sumOfNumbers d 4 [(0, .ref 18), (1, I_ 0), (2, I_ 0)] [] n (W0 dy) g 0 0 P) : Runs miX3_sumOfNumbers d [.ref 18] n (W0 dy) g P := Runs.of rfl rfl deX3_sumOfNumbers (Nat.le_of_ble_eq_true rfl) (bX3_sumOfNumbers_0 hn h)
theorem fl3_92_5 : FR RX3 92 5 10 := ⟨RX6, TX6, 16, "MobileMaker$Rod", rfl, rfl, by decide, kf5, tbG_in (List.mem_append_right _ (List.mem_of_getElem? (i := 447) (by decide +kernel))) rfl, Or.inl rfl⟩
theorem fl3_95_5 : FL RX3 95 5 14 false (.object "MobileMaker$Part") := ⟨RX6, TX6, 16, "MobileMaker$Rod", rfl, rfl, by decide, kf5, tbG_in (List.mem_append_right _ (List.mem_of_getElem? (i := 461) (by decide +kernel))) rfl, Or.inl rfl, rfl, by decide +kernel, ⟨tyX6, tyX6_ok⟩, nmX6, fun h => by cases h⟩
theorem fl3_103_5 : FL RX3 103 5 15 false (.object "MobileMaker$Part") := ⟨RX6, TX6, 16, "MobileMaker$Rod", rfl, rfl, by decide, kf5, tbG_in (List.mem_append_right _ (List.mem_of_getElem? (i := 466) (by decide +kernel))) rfl, Or.inl rfl, rfl, by decide +kernel, ⟨tyX6, tyX6_ok⟩, nmX6, fun h => by cases h⟩
theorem lv3_86_share_5 : LkV miX3_share miX6_arm 86 1 5 := ⟨⟨⟨tbG_in (List.mem_append_right _ (List.mem_of_getElem? (i := 775) (by decide +kernel))) rfl, tbG_in (List.mem_append_right _ (List.mem_of_getElem? (i := 14) (by decide +kernel))) rfl, tbG_in (List.mem_append_right _ (List.mem_of_getElem? (i := 918) (by decide +kernel))) rfl⟩, ⟨by decide +kernel, by decide +kernel, by decide +kernel⟩, by decide⟩, tbG_in (List.mem_append_right _ (List.mem_of_getElem? (i := 773) (by decide +kernel))) rfl, RX6, TX6, 16, rfl, tbG_in (List.mem_append_right _ (List.mem_of_getElem? (i := 774) (by decide +kernel))) rfl⟩
theorem lv3_99_share_2 : LkV miX3_share miX3_shareSide 99 3 2 := ⟨⟨⟨tbG_in (List.mem_append_right _ (List.mem_of_getElem? (i := 922) (by decide +kernel))) rfl, tbG_in (List.mem_append_right _ (List.mem_of_getElem? (i := 6) (by decide +kernel))) rfl, tbG_in (List.mem_append_right _ (List.mem_of_getElem? (i := 919) (by decide +kernel))) rfl⟩, ⟨by decide +kernel, by decide +kernel, by decide +kernel⟩, by decide⟩, tbG_in (List.mem_append_right _ (List.mem_of_getElem? (i := 921) (by decide +kernel))) rfl, RX3, TX3, 11, rfl, tbG_in (List.mem_append_left _ (List.mem_of_getElem? (i := 32) (by decide +kernel))) rfl⟩
set_option maxHeartbeats 8000000 in
set_option maxRecDepth 4000 in
theorem bX3_share_0 {d n : Nat} {dy : Nat → Shp} {g : Hp} {P : Pst} {r1 : Nat} {x2 : Int} {x3 : Int} (hn : 100 ≤ n) (h : (i3 x2) ∧ (Ob n (W0 dy) r1 5) ∧ Runs miX6_arm d [.ref r1, I_ 1] n (W0 dy) g (fun v n' S' g' => V miX3_share (d + 1) 7 [(0, .ref 18), (1, .ref r1), (2, I_ x2), (3, I_ x3)] (v.toList ++ [L_ x2]) n' S' g' 0 0 P)) : V miX3_share (d + 1) 0 [(0, .ref 18), (1, .ref r1), (2, I_ x2), (3, I_ x3)] [] n (W0 dy) g 0 0 P := by
  refine v_iload_n 0 2 rfl rfl rfl ?_
  have c1 := h.1
  have h := h.2
  refine v_i2l 1 rfl c1 ?_
  refine v_aload_n 2 1 rfl rfl rfl ?_
  refine v_iconst 3 rfl ?_
  have c2 := h.1
  have h := h.2
  refine v_callV (st := [L_ x2]) [I_ 1] 4 rfl lv3_86_share_5 c2.1 c2.2.1 (by decide) rfl (Nat.le_refl _) (Nat.le_refl _) ?_
  exact h
set_option maxHeartbeats 8000000 in
set_option maxRecDepth 4000 in
theorem bX3_share_7 {d n : Nat} {dy : Nat → Shp} {g : Hp} {P : Pst} {r1 : Nat} {x2 : Int} {x3 : Int} {xs0 : Int} {xs1 : Int} (hn : 100 ≤ n) (h : (i3 xs1) ∧ (i3 x3) ∧ ((8 ≤ x3) → P none n (W0 dy) (up2 g 18 4 0)) ∧ ((x3 < 8) → (Ob n (W0 dy) r1 5) ∧ (((g r1 10) ≤ 0) → P none n (W0 dy) (up2 g 18 4 0)) ∧ ((0 < (g r1 10)) → (i6 (xs0 * xs1)) ∧ (g r1 10 ≠ 0) ∧ (i6 ((xs0 * xs1).tmod (g r1 10))) ∧ ((((xs0 * xs1).tmod (g r1 10)) = 0) → (g r1 10 ≠ 0) ∧ Runs miX3_shareSide d [.ref 18, .ref ((g r1 14).toNat), I_ ((xs0 * xs1).tdiv (g r1 10)), I_ x3] n (W0 dy) g (fun v n' S' g' => V miX3_share (d + 1) 65 [(0, .ref 18), (1, .ref r1), (2, I_ x2), (3, I_ x3), (4, L_ (xs0 * xs1)), (6, I_ ((xs0 * xs1).tdiv (g r1 10)))] (v.toList ++ []) n' S' g' 0 0 P)) ∧ ((((xs0 * xs1).tmod (g r1 10)) ≠ 0) → P none n (W0 dy) (up2 g 18 4 0))))) : V miX3_share (d + 1) 7 [(0, .ref 18), (1, .ref r1), (2, I_ x2), (3, I_ x3)] [I_ xs1, L_ xs0] n (W0 dy) g 0 0 P := by
  have c1 := h.1
  have h := h.2
  refine v_i2l 5 rfl c1 ?_
  refine v_lmul 6 rfl ?_
  refine v_lstore 7 [1, 2, 3, 4, 0] rfl (by decide) rfl ?_
  refine v_iload_n 8 3 rfl rfl rfl ?_
  refine v_bipush 9 rfl (by decide) ?_
  have c2 := h.1
  have h := h.2
  refine v_icmp_ge 10 rfl (tgt := 37) rfl c2 (by decide) (fun q3 => ?_) (fun q3 => ?_)
  · have h := h.1 q3
    refine v_aload_n 22 0 rfl rfl rfl ?_
    refine v_iconst 23 rfl ?_
    refine v_putZ 24 rfl fl3_25_2 (al 18 rfl hn) (wk18 dy) (by decide) rfl (wc18_4 dy) (Or.inl rfl) ?_
    exact v_ret (v := none) 25 rfl (Nat.zero_le _) (Nat.zero_le _) trivial rfl h
  · have h := h.2 q3
    refine v_aload_n 11 1 rfl rfl rfl ?_
    have c4 := h.1
    have h := h.2
    refine v_gI 12 rfl fl3_92_5 c4.1 c4.2.1 (by decide) rfl (c4.2.2 10) (x := g r1 10) rfl ?_
    refine v_rng fun w5 => ?_
    have p6 : i3 (g r1 10) := rI w5 (q := 10) c4.1 c4.2.1 rfl rfl
    refine v_if_le 13 rfl (tgt := 37) rfl p6 (fun q7 => ?_) (fun q7 => ?_)
    · have h := h.1 q7
      refine v_aload_n 22 0 rfl rfl rfl ?_
      refine v_iconst 23 rfl ?_
      refine v_putZ 24 rfl fl3_25_2 (al 18 rfl hn) (wk18 dy) (by decide) rfl (wc18_4 dy) (Or.inl rfl) ?_
      exact v_ret (v := none) 25 rfl (Nat.zero_le _) (Nat.zero_le _) trivial rfl h
    · have h := h.2 q7
      refine v_lload 14 4 rfl rfl ?_
      refine v_aload_n 15 1 rfl rfl rfl ?_
      refine v_gI 16 rfl fl3_92_5 c4.1 c4.2.1 (by decide) rfl (c4.2.2 10) (x := g r1 10) rfl ?_
      refine v_rng fun w8 => ?_
      have p9 : i3 (g r1 10) := rI w8 (q := 10) c4.1 c4.2.1 rfl rfl
      refine v_i2l 17 rfl p9 ?_
      have c10 := h.1
      have h := h.2
      have c11 := h.1
      have h := h.2
      refine v_lrem 18 rfl c10 (i36 p9) c11 ?_
      refine v_lconst (v := 0) 19 rfl (by decide) ?_
      have c12 := h.1
      have h := h.2
      refine v_lif_eq 20 rfl rfl (tgt := 43) rfl c12 (by decide) (fun q13 => ?_) (fun q13 => ?_)
      · have h := h.1 q13
        refine v_lload 26 4 rfl rfl ?_
        refine v_aload_n 27 1 rfl rfl rfl ?_
        refine v_gI 28 rfl fl3_92_5 c4.1 c4.2.1 (by decide) rfl (c4.2.2 10) (x := g r1 10) rfl ?_
        refine v_rng fun w14 => ?_
        have p15 : i3 (g r1 10) := rI w14 (q := 10) c4.1 c4.2.1 rfl rfl
        refine v_i2l 29 rfl p15 ?_
        have c16 := h.1
        have h := h.2
        refine v_ldiv 30 rfl c10 (i36 p15) c16 ?_
        refine v_l2i 31 rfl ?_
        refine v_istore 32 [1, 2, 3, 4, 5, 0] rfl (by decide) rfl ?_
        refine v_aload_n 33 0 rfl rfl rfl ?_
        refine v_aload_n 34 1 rfl rfl rfl ?_
        refine v_gR 35 rfl fl3_95_5.r c4.1 c4.2.1 (by decide) rfl (c4.2.2 14) (x := g r1 14) rfl ?_
        refine v_iload 36 5 rfl rfl ?_
        refine v_iload_n 37 3 rfl rfl rfl ?_
        refine v_callV (st := []) [.ref ((g r1 14).toNat), I_ ((xs0 * xs1).tdiv (g r1 10)), I_ x3] 38 rfl lv3_99_share_2 (al 18 rfl hn) (wk18 dy) (by decide) rfl (Nat.le_refl _) (Nat.le_refl _) ?_
        exact h
      · have h := h.2 q13
        refine v_aload_n 22 0 rfl rfl rfl ?_
        refine v_iconst 23 rfl ?_
        refine v_putZ 24 rfl fl3_25_2 (al 18 rfl hn) (wk18 dy) (by decide) rfl (wc18_4 dy) (Or.inl rfl) ?_
        exact v_ret (v := none) 25 rfl (Nat.zero_le _) (Nat.zero_le _) trivial rfl h
set_option maxHeartbeats 8000000 in
set_option maxRecDepth 4000 in
theorem bX3_share_65 {d n : Nat} {dy : Nat → Shp} {g : Hp} {P : Pst} {r1 : Nat} {x2 : Int} {x3 : Int} {x4 : Int} {x6 : Int} (hn : 100 ≤ n) (h : (Ob n (W0 dy) r1 5) ∧ Runs miX3_shareSide d [.ref 18, .ref ((g r1 15).toNat), I_ (x2 - x6), I_ x3] n (W0 dy) g (fun v n' S' g' => V miX3_share (d + 1) 78 [(0, .ref 18), (1, .ref r1), (2, I_ x2), (3, I_ x3), (4, L_ x4), (6, I_ x6)] (v.toList ++ []) n' S' g' 0 0 P)) : V miX3_share (d + 1) 65 [(0, .ref 18), (1, .ref r1), (2, I_ x2), (3, I_ x3), (4, L_ x4), (6, I_ x6)] [] n (W0 dy) g 0 0 P := by
  refine v_aload_n 39 0 rfl rfl rfl ?_
  refine v_aload_n 40 1 rfl rfl rfl ?_
  have c1 := h.1
  have h := h.2
  refine v_gR 41 rfl fl3_103_5.r c1.1 c1.2.1 (by decide) rfl (c1.2.2 15) (x := g r1 15) rfl ?_
  refine v_iload_n 42 2 rfl rfl rfl ?_
  refine v_iload 43 5 rfl rfl ?_
  refine v_isub 44 rfl ?_
  refine v_iload_n 45 3 rfl rfl rfl ?_
  refine v_callV (st := []) [.ref ((g r1 15).toNat), I_ (x2 - x6), I_ x3] 46 rfl lv3_99_share_2 (al 18 rfl hn) (wk18 dy) (by decide) rfl (Nat.le_refl _) (Nat.le_refl _) ?_
  exact h
set_option maxHeartbeats 8000000 in
set_option maxRecDepth 4000 in
theorem bX3_share_78 {d n : Nat} {dy : Nat → Shp} {g : Hp} {P : Pst} {r1 : Nat} {x2 : Int} {x3 : Int} {x4 : Int} {x6 : Int} (hn : 100 ≤ n) (h : P none n (W0 dy) g) : V miX3_share (d + 1) 78 [(0, .ref 18), (1, .ref r1), (2, I_ x2), (3, I_ x3), (4, L_ x4), (6, I_ x6)] [] n (W0 dy) g 0 0 P := by
  exact v_ret (v := none) 47 rfl (Nat.zero_le _) (Nat.zero_le _) trivial rfl h
theorem wX3_share {d n : Nat} {dy : Nat → Shp} {g : Hp} {P : Pst} {r1 : Nat} {x2 : Int} {x3 : Int} (hn : 100 ≤ n) (h : (i3 x2) ∧ (Ob n (W0 dy) r1 5) ∧ Runs miX6_arm d [.ref r1, I_ 1] n (W0 dy) g (fun v n' S' g' => V miX3_share (d + 1) 7 [(0, .ref 18), (1, .ref r1), (2, I_ x2), (3, I_ x3)] (v.toList ++ [L_ x2]) n' S' g' 0 0 P)) : Runs miX3_share (d + 1) [.ref 18, .ref r1, I_ x2, I_ x3] n (W0 dy) g P := Runs.of rfl rfl deX3_share (Nat.le_of_ble_eq_true rfl) (bX3_share_0 hn h)
theorem ln3_106_shareSide : LkN miX3_shareSide miX11_asRod 106 1 "MobileMaker" := ⟨⟨tbG_in (List.mem_append_right _ (List.mem_of_getElem? (i := 620) (by decide +kernel))) rfl, tbG_in (List.mem_append_right _ (List.mem_of_getElem? (i := 1) (by decide +kernel))) rfl, by decide⟩, ⟨by decide +kernel, by decide +kernel, by decide +kernel⟩, by decide, tbG_in (List.mem_append_right _ (List.mem_of_getElem? (i := 619) (by decide +kernel))) rfl, rfl⟩
theorem lv3_57_shareSide_2 : LkV miX3_shareSide miX3_share 57 3 2 := ⟨⟨⟨tbG_in (List.mem_append_right _ (List.mem_of_getElem? (i := 917) (by decide +kernel))) rfl, tbG_in (List.mem_append_right _ (List.mem_of_getElem? (i := 6) (by decide +kernel))) rfl, tbG_in (List.mem_append_right _ (List.mem_of_getElem? (i := 914) (by decide +kernel))) rfl⟩, ⟨by decide +kernel, by decide +kernel, by decide +kernel⟩, by decide⟩, tbG_in (List.mem_append_right _ (List.mem_of_getElem? (i := 916) (by decide +kernel))) rfl, RX3, TX3, 11, rfl, tbG_in (List.mem_append_left _ (List.mem_of_getElem? (i := 31) (by decide +kernel))) rfl⟩
set_option maxHeartbeats 8000000 in
set_option maxRecDepth 4000 in
theorem bX3_shareSide_0 {d n : Nat} {dy : Nat → Shp} {g : Hp} {P : Pst} {r1 : Nat} {x2 : Int} {x3 : Int} (hn : 100 ≤ n) (h : Runs miX11_asRod d [.ref r1] n (W0 dy) g (fun v n' S' g' => V miX3_shareSide (d + 1) 4 [(0, .ref 18), (1, .ref r1), (2, I_ x2), (3, I_ x3)] (v.toList ++ []) n' S' g' 0 0 P)) : V miX3_shareSide (d + 1) 0 [(0, .ref 18), (1, .ref r1), (2, I_ x2), (3, I_ x3)] [] n (W0 dy) g 0 0 P := by
  refine v_aload_n 0 1 rfl rfl rfl ?_
  refine v_callSN (st := []) [.ref r1] 1 rfl ln3_106_shareSide rfl (Nat.lt_of_lt_of_le (by decide) hn) (Nat.le_refl _) (Nat.le_refl _) ?_
  exact h
set_option maxHeartbeats 8000000 in
set_option maxRecDepth 4000 in
theorem bX3_shareSide_4 {d n : Nat} {dy : Nat → Shp} {g : Hp} {P : Pst} {r1 : Nat} {x2 : Int} {x3 : Int} {rs0 : Nat} (hn : 100 ≤ n) (h : ((rs0 = 0) → ((8 ≤ (g 18 3)) → P none n (W0 dy) g) ∧ (((g 18 3) < 8) → (0 ≤ g 18 3 ∧ g 18 3 < 9) ∧ (0 ≤ (g 18 3) + 1 ∧ (g 18 3) + 1 < 9) ∧ (i3 ((g 20 ((g 18 3).toNat)) + x2)) ∧ P none n (W0 dy) (up2 (up2 g 20 (((g 18 3) + 1).toNat) ((g 20 ((g 18 3).toNat)) + x2)) 18 3 ((g 18 3) + 1)))) ∧ ((0 < rs0) → Runs miX3_share d [.ref 18, .ref rs0, I_ x2, I_ (x3 + 1)] n (W0 dy) g (fun v n' S' g' => V miX3_shareSide (d + 1) 21 [(0, .ref 18), (1, .ref r1), (2, I_ x2), (3, I_ x3), (4, .ref rs0)] (v.toList ++ []) n' S' g' 0 0 P))) : V miX3_shareSide (d + 1) 4 [(0, .ref 18), (1, .ref r1), (2, I_ x2), (3, I_ x3)] [.ref rs0] n (W0 dy) g 0 0 P := by
  refine v_astore 2 [1, 2, 3, 4, 0] rfl (by decide) rfl ?_
  refine v_aload 3 4 rfl rfl ?_
  refine v_ifnull 4 rfl (tgt := 24) rfl (fun q1 => ?_) (fun q1 => ?_)
  · have h := h.1 q1
    refine v_aload_n 13 0 rfl rfl rfl ?_
    refine v_gI 14 rfl fl3_22_2.r (al 18 rfl hn) (wk18 dy) (by decide) rfl (wc18_3 dy) (x := g 18 3) rfl ?_
    refine v_rng fun w2 => ?_
    have p3 : i3 (g 18 3) := rI w2 (q := 3) (al 18 rfl hn) (wk18 dy) rfl rfl
    refine v_bipush 15 rfl (by decide) ?_
    refine v_icmp_ge 16 rfl (tgt := 65) rfl p3 (by decide) (fun q4 => ?_) (fun q4 => ?_)
    · have h := h.1 q4
      exact v_ret (v := none) 37 rfl (Nat.zero_le _) (Nat.zero_le _) trivial rfl h
    · have h := h.2 q4
      refine v_aload_n 17 0 rfl rfl rfl ?_
      refine v_gK 18 rfl fl3_19_2.r (al 18 rfl hn) (wk18 dy) (by decide) rfl (r := 20) (wc18_2 dy) ?_
      refine v_aload_n 19 0 rfl rfl rfl ?_
      refine v_gI 20 rfl fl3_22_2.r (al 18 rfl hn) (wk18 dy) (by decide) rfl (wc18_3 dy) (x := g 18 3) rfl ?_
      refine v_rng fun w5 => ?_
      have p6 : i3 (g 18 3) := rI w5 (q := 3) (al 18 rfl hn) (wk18 dy) rfl rfl
      refine v_iconst 21 rfl ?_
      refine v_iadd 22 rfl ?_
      refine v_aload_n 23 0 rfl rfl rfl ?_
      refine v_gK 24 rfl fl3_19_2.r (al 18 rfl hn) (wk18 dy) (by decide) rfl (r := 20) (wc18_2 dy) ?_
      refine v_aload_n 25 0 rfl rfl rfl ?_
      refine v_gI 26 rfl fl3_22_2.r (al 18 rfl hn) (wk18 dy) (by decide) rfl (wc18_3 dy) (x := g 18 3) rfl ?_
      refine v_rng fun w7 => ?_
      have p8 : i3 (g 18 3) := rI w7 (q := 3) (al 18 rfl hn) (wk18 dy) rfl rfl
      have c9 := h.1
      have h := h.2
      refine v_ia (N := 9) 27 rfl (al 20 rfl hn) (wk20 dy) (wn20 dy) (by decide) c9 (y := g 20 ((g 18 3).toNat)) rfl ?_
      refine v_rng fun w10 => ?_
      have p11 : i3 (g 20 ((g 18 3).toNat)) := rI w10 (q := ((g 18 3).toNat)) (al 20 rfl hn) (wk20 dy) rfl rfl
      refine v_iload_n 28 2 rfl rfl rfl ?_
      refine v_iadd 29 rfl ?_
      have c12 := h.1
      have h := h.2
      have c13 := h.1
      have h := h.2
      refine v_iast (N := 9) 30 rfl (al 20 rfl hn) (wk20 dy) (wn20 dy) (by decide) c12 c13 ?_
      refine v_aload_n 31 0 rfl rfl rfl ?_
      refine v_dup 32 rfl (by intro h; cases h) ?_
      refine v_gI 33 rfl fl3_22_2.r (al 18 rfl hn) (wk18 dy) (by decide) rfl (wc18_3 dy) (x := g 18 3) rfl ?_
      refine v_rng fun w14 => ?_
      have p15 : i3 (g 18 3) := rI w14 (q := 3) (al 18 rfl hn) (wk18 dy) rfl rfl
      refine v_iconst 34 rfl ?_
      refine v_iadd 35 rfl ?_
      refine v_putI 36 rfl fl3_22_2 (al 18 rfl hn) (wk18 dy) (by decide) rfl (wc18_3 dy) (ix3 c12 (by decide)) ?_
      exact v_ret (v := none) 37 rfl (Nat.zero_le _) (Nat.zero_le _) trivial rfl h
  · have h := h.2 q1
    refine v_aload_n 5 0 rfl rfl rfl ?_
    refine v_aload 6 4 rfl rfl ?_
    refine v_iload_n 7 2 rfl rfl rfl ?_
    refine v_iload_n 8 3 rfl rfl rfl ?_
    refine v_iconst 9 rfl ?_
    refine v_iadd 10 rfl ?_
    refine v_callV (st := []) [.ref rs0, I_ x2, I_ (x3 + 1)] 11 rfl lv3_57_shareSide_2 (al 18 rfl hn) (wk18 dy) (by decide) rfl (Nat.le_refl _) (Nat.le_refl _) ?_
    exact h
set_option maxHeartbeats 8000000 in
set_option maxRecDepth 4000 in
theorem bX3_shareSide_21 {d n : Nat} {dy : Nat → Shp} {g : Hp} {P : Pst} {r1 : Nat} {x2 : Int} {x3 : Int} {r4 : Nat} (hn : 100 ≤ n) (h : P none n (W0 dy) g) : V miX3_shareSide (d + 1) 21 [(0, .ref 18), (1, .ref r1), (2, I_ x2), (3, I_ x3), (4, .ref r4)] [] n (W0 dy) g 0 0 P := by
  refine v_goto 12 rfl (tgt := 65) rfl ?_
  exact v_ret (v := none) 37 rfl (Nat.zero_le _) (Nat.zero_le _) trivial rfl h
theorem wX3_shareSide {d n : Nat} {dy : Nat → Shp} {g : Hp} {P : Pst} {r1 : Nat} {x2 : Int} {x3 : Int} (hn : 100 ≤ n) (h : Runs miX11_asRod d [.ref r1] n (W0 dy) g (fun v n' S' g' => V miX3_shareSide (d + 1) 4 [(0, .ref 18), (1, .ref r1), (2, I_ x2), (3, I_ x3)] (v.toList ++ []) n' S' g' 0 0 P)) : Runs miX3_shareSide (d + 1) [.ref 18, .ref r1, I_ x2, I_ x3] n (W0 dy) g P := Runs.of rfl rfl deX3_shareSide (Nat.le_of_ble_eq_true rfl) (bX3_shareSide_0 hn h)
theorem fl3_40_2 : FL RX3 40 2 8 true (.array .int) := ⟨RX3, TX3, 11, "MobileMaker$Parting", rfl, rfl, by decide, kf2, tbG_in (List.mem_append_right _ (List.mem_of_getElem? (i := 146) (by decide +kernel))) rfl, Or.inl rfl, rfl, by decide +kernel, ⟨tyX3, tyX3_ok⟩, nmX3, fun _ => rfl⟩
theorem fl3_29_2 : FL RX3 29 2 5 true (.array .int) := ⟨RX3, TX3, 11, "MobileMaker$Parting", rfl, rfl, by decide, kf2, tbG_in (List.mem_append_right _ (List.mem_of_getElem? (i := 143) (by decide +kernel))) rfl, Or.inl rfl, rfl, by decide +kernel, ⟨tyX3, tyX3_ok⟩, nmX3, fun _ => rfl⟩
theorem fl3_32_2 : FL RX3 32 2 6 true (.array .int) := ⟨RX3, TX3, 11, "MobileMaker$Parting", rfl, rfl, by decide, kf2, tbG_in (List.mem_append_right _ (List.mem_of_getElem? (i := 144) (by decide +kernel))) rfl, Or.inl rfl, rfl, by decide +kernel, ⟨tyX3, tyX3_ok⟩, nmX3, fun _ => rfl⟩
theorem ls3_110_listSets : LkS miX3_listSets miJ7_fill_53178 110 2 := ⟨⟨⟨tbG_in (List.mem_append_right _ (List.mem_of_getElem? (i := 930) (by decide +kernel))) rfl, tbG_in (List.mem_append_right _ (List.mem_of_getElem? (i := 10) (by decide +kernel))) rfl, tbG_in (List.mem_append_right _ (List.mem_of_getElem? (i := 928) (by decide +kernel))) rfl⟩, ⟨by decide +kernel, by decide +kernel, by decide +kernel⟩, by decide⟩, tbG_in (List.mem_append_right _ (List.mem_of_getElem? (i := 929) (by decide +kernel))) rfl⟩
theorem lv3_116_listSets_2 : LkV miX3_listSets miX3_list 116 1 2 := ⟨⟨⟨tbG_in (List.mem_append_right _ (List.mem_of_getElem? (i := 934) (by decide +kernel))) rfl, tbG_in (List.mem_append_right _ (List.mem_of_getElem? (i := 6) (by decide +kernel))) rfl, tbG_in (List.mem_append_right _ (List.mem_of_getElem? (i := 931) (by decide +kernel))) rfl⟩, ⟨by decide +kernel, by decide +kernel, by decide +kernel⟩, by decide⟩, tbG_in (List.mem_append_right _ (List.mem_of_getElem? (i := 933) (by decide +kernel))) rfl, RX3, TX3, 11, rfl, tbG_in (List.mem_append_left _ (List.mem_of_getElem? (i := 34) (by decide +kernel))) rfl⟩
theorem lv3_119_listSets_2 : LkV miX3_listSets miX3_likeAhead 119 1 2 := ⟨⟨⟨tbG_in (List.mem_append_right _ (List.mem_of_getElem? (i := 938) (by decide +kernel))) rfl, tbG_in (List.mem_append_right _ (List.mem_of_getElem? (i := 6) (by decide +kernel))) rfl, tbG_in (List.mem_append_right _ (List.mem_of_getElem? (i := 935) (by decide +kernel))) rfl⟩, ⟨by decide +kernel, by decide +kernel, by decide +kernel⟩, by decide⟩, tbG_in (List.mem_append_right _ (List.mem_of_getElem? (i := 937) (by decide +kernel))) rfl, RX3, TX3, 11, rfl, tbG_in (List.mem_append_left _ (List.mem_of_getElem? (i := 35) (by decide +kernel))) rfl⟩
set_option maxHeartbeats 8000000 in
set_option maxRecDepth 4000 in
theorem bX3_listSets_0 {d n : Nat} {dy : Nat → Shp} {g : Hp} {P : Pst}  (hn : 100 ≤ n) (h : Runs miJ7_fill_53178 d [.ref 33, I_ 0] n (W0 dy) g (fun v n' S' g' => V miX3_listSets (d + 1) 8 [(0, .ref 18)] (v.toList ++ []) n' S' g' 0 0 P)) : V miX3_listSets (d + 1) 0 [(0, .ref 18)] [] n (W0 dy) g 0 0 P := by
  refine v_aload_n 0 0 rfl rfl rfl ?_
  refine v_gK 1 rfl fl3_40_2.r (al 18 rfl hn) (wk18 dy) (by decide) rfl (r := 33) (wc18_8 dy) ?_
  refine v_iconst 2 rfl ?_
  refine v_callS (st := []) [.ref 33, I_ 0] 3 rfl ls3_110_listSets rfl (Nat.lt_of_lt_of_le (by decide) hn) (Nat.le_refl _) (Nat.le_refl _) ?_
  exact h
set_option maxHeartbeats 8000000 in
set_option maxRecDepth 4000 in
theorem bX3_listSets_8 {d n : Nat} {dy : Nat → Shp} {g : Hp} {P : Pst}  (hn : 100 ≤ n) (h : Runs miX3_list d [.ref 18, I_ 0] n (W0 dy) (up2 (up2 g 21 0 0) 22 0 0) (fun v n' S' g' => V miX3_listSets (d + 1) 27 [(0, .ref 18)] (v.toList ++ []) n' S' g' 0 0 P)) : V miX3_listSets (d + 1) 8 [(0, .ref 18)] [] n (W0 dy) g 0 0 P := by
  refine v_aload_n 4 0 rfl rfl rfl ?_
  refine v_gK 5 rfl fl3_29_2.r (al 18 rfl hn) (wk18 dy) (by decide) rfl (r := 21) (wc18_5 dy) ?_
  refine v_iconst 6 rfl ?_
  refine v_iconst 7 rfl ?_
  refine v_iast (N := 1024) 8 rfl (al 21 rfl hn) (wk21 dy) (wn21 dy) (by decide) (by decide) (by decide) ?_
  refine v_aload_n 9 0 rfl rfl rfl ?_
  refine v_gK 10 rfl fl3_32_2.r (al 18 rfl hn) (wk18 dy) (by decide) rfl (r := 22) (wc18_6 dy) ?_
  refine v_iconst 11 rfl ?_
  refine v_iconst 12 rfl ?_
  refine v_iast (N := 1024) 13 rfl (al 22 rfl hn) (wk22 dy) (wn22 dy) (by decide) (by decide) (by decide) ?_
  refine v_aload_n 14 0 rfl rfl rfl ?_
  refine v_iconst 15 rfl ?_
  refine v_callV (st := []) [I_ 0] 16 rfl lv3_116_listSets_2 (al 18 rfl hn) (wk18 dy) (by decide) rfl (Nat.le_refl _) (Nat.le_refl _) ?_
  exact h
set_option maxHeartbeats 8000000 in
set_option maxRecDepth 4000 in
theorem bX3_listSets_27 {d n : Nat} {dy : Nat → Shp} {g : Hp} {P : Pst}  (hn : 100 ≤ n) (h : V miX3_listSets (d + 1) 29 [(0, .ref 18), (1, I_ 0)] [] n (W0 dy) g 0 0 P) : V miX3_listSets (d + 1) 27 [(0, .ref 18)] [] n (W0 dy) g 0 0 P := by
  refine v_iconst 17 rfl ?_
  refine v_istore_n 18 [1, 0] rfl rfl (by decide) rfl ?_
  exact h
set_option maxHeartbeats 8000000 in
set_option maxRecDepth 4000 in
theorem bX3_listSets_29 {d n : Nat} {dy : Nat → Shp} {g : Hp} {P : Pst} {x1 : Int} (hn : 100 ≤ n) (h : (i3 x1) ∧ (((g 18 1) ≤ x1) → P none n (W0 dy) (up2 (up2 g 34 0 1) 35 0 0)) ∧ ((x1 < (g 18 1)) → Runs miX3_likeAhead d [.ref 18, I_ x1] n (W0 dy) g (fun v n' S' g' => V miX3_listSets (d + 1) 46 [(0, .ref 18), (1, I_ x1), (2, I_ (shl3 1 x1))] (v.toList ++ []) n' S' g' 0 0 P))) : V miX3_listSets (d + 1) 29 [(0, .ref 18), (1, I_ x1)] [] n (W0 dy) g 0 0 P := by
  refine v_iload_n 19 1 rfl rfl rfl ?_
  refine v_aload_n 20 0 rfl rfl rfl ?_
  refine v_gI 21 rfl fl3_15_2.r (al 18 rfl hn) (wk18 dy) (by decide) rfl (wc18_1 dy) (x := g 18 1) rfl ?_
  refine v_rng fun w1 => ?_
  have p2 : i3 (g 18 1) := rI w1 (q := 1) (al 18 rfl hn) (wk18 dy) rfl rfl
  have c3 := h.1
  have h := h.2
  refine v_icmp_ge 22 rfl (tgt := 168) rfl c3 p2 (fun q4 => ?_) (fun q4 => ?_)
  · have h := h.1 q4
    refine v_aload_n 102 0 rfl rfl rfl ?_
    refine v_gK 103 rfl fl3_43_2.r (al 18 rfl hn) (wk18 dy) (by decide) rfl (r := 34) (wc18_9 dy) ?_
    refine v_iconst 104 rfl ?_
    refine v_iconst 105 rfl ?_
    refine v_iast (N := 1024) 106 rfl (al 34 rfl hn) (wk34 dy) (wn34 dy) (by decide) (by decide) (by decide) ?_
    refine v_aload_n 107 0 rfl rfl rfl ?_
    refine v_gK 108 rfl fl3_46_2.r (al 18 rfl hn) (wk18 dy) (by decide) rfl (r := 35) (wc18_10 dy) ?_
    refine v_iconst 109 rfl ?_
    refine v_iconst 110 rfl ?_
    refine v_iast (N := 1024) 111 rfl (al 35 rfl hn) (wk35 dy) (wn35 dy) (by decide) (by decide) (by decide) ?_
    exact v_ret (v := none) 112 rfl (Nat.zero_le _) (Nat.zero_le _) trivial rfl h
  · have h := h.2 q4
    refine v_iconst 23 rfl ?_
    refine v_iload_n 24 1 rfl rfl rfl ?_
    refine v_ishl 25 rfl ?_
    refine v_istore_n 26 [1, 2, 0] rfl rfl (by decide) rfl ?_
    refine v_aload_n 27 0 rfl rfl rfl ?_
    refine v_iload_n 28 1 rfl rfl rfl ?_
    refine v_callV (st := []) [I_ x1] 29 rfl lv3_119_listSets_2 (al 18 rfl hn) (wk18 dy) (by decide) rfl (Nat.le_refl _) (Nat.le_refl _) ?_
    exact h
set_option maxHeartbeats 8000000 in
set_option maxRecDepth 4000 in
theorem bX3_listSets_46 {d n : Nat} {dy : Nat → Shp} {g : Hp} {P : Pst} {x1 : Int} {x2 : Int} {xs0 : Int} (hn : 100 ≤ n) (h : V miX3_listSets (d + 1) 50 [(0, .ref 18), (1, I_ x1), (2, I_ x2), (3, I_ xs0), (4, I_ 0)] [] n (W0 dy) g 0 0 P) : V miX3_listSets (d + 1) 46 [(0, .ref 18), (1, I_ x1), (2, I_ x2)] [I_ xs0] n (W0 dy) g 0 0 P := by
  refine v_istore_n 30 [1, 2, 3, 0] rfl rfl (by decide) rfl ?_
  refine v_iconst 31 rfl ?_
  refine v_istore 32 [1, 2, 3, 4, 0] rfl (by decide) rfl ?_
  exact h
set_option maxHeartbeats 8000000 in
set_option maxRecDepth 4000 in
theorem bX3_listSets_50 {d n : Nat} {dy : Nat → Shp} {g : Hp} {P : Pst} {x1 : Int} {x2 : Int} {x3 : Int} {x4 : Int} (hn : 100 ≤ n) (h : (i3 x4) ∧ (i3 x2) ∧ ((x2 ≤ x4) → V miX3_listSets (d + 1) 29 [(0, .ref 18), (1, I_ (x1 + 1))] [] n (W0 dy) g 0 0 P) ∧ ((x4 < x2) → (0 ≤ x4 ∧ x4 < 1024) ∧ (((g 21 x4.toNat) = ((-1))) → (0 ≤ or3 x4 x2 ∧ or3 x4 x2 < 1024) ∧ ∀ y14 : Int, y14 = (g 22 x4.toNat) + (shl3 1 (3 * (((g 18 1) - 1) - x1))) → (i3 y14) ∧ V miX3_listSets (d + 1) 156 [(0, .ref 18), (1, I_ x1), (2, I_ x2), (3, I_ x3), (4, I_ x4), (5, I_ 0)] [] n (W0 dy) (up2 (up2 g 21 ((or3 x4 x2).toNat) ((-1))) 22 ((or3 x4 x2).toNat) y14) 0 0 P) ∧ (((g 21 x4.toNat) ≠ ((-1))) → (i3 x3) ∧ (((and3 x4 x3) ≠ x3) → (0 ≤ or3 x4 x2 ∧ or3 x4 x2 < 1024) ∧ ∀ y25 : Int, y25 = (g 22 x4.toNat) + (shl3 1 (3 * (((g 18 1) - 1) - x1))) → (i3 y25) ∧ V miX3_listSets (d + 1) 156 [(0, .ref 18), (1, I_ x1), (2, I_ x2), (3, I_ x3), (4, I_ x4), (5, I_ 0)] [] n (W0 dy) (up2 (up2 g 21 ((or3 x4 x2).toNat) ((-1))) 22 ((or3 x4 x2).toNat) y25) 0 0 P) ∧ (((and3 x4 x3) = x3) → (0 ≤ x1 ∧ x1 < 10) ∧ ∀ y34 : Int, y34 = (g 21 x4.toNat) + (g 19 x1.toNat) → (0 ≤ or3 x4 x2 ∧ or3 x4 x2 < 1024) ∧ (i3 y34) ∧ ∀ y41 : Int, y41 = (g 22 x4.toNat) + (shl3 1 (3 * (((g 18 1) - 1) - x1))) → (i3 y41) ∧ Runs miX3_list d [.ref 18, I_ (or3 x4 x2)] n (W0 dy) (up2 (up2 g 21 ((or3 x4 x2).toNat) y34) 22 ((or3 x4 x2).toNat) y41) (fun v n' S' g' => V miX3_listSets (d + 1) 156 [(0, .ref 18), (1, I_ x1), (2, I_ x2), (3, I_ x3), (4, I_ x4), (5, I_ 1)] (v.toList ++ []) n' S' g' 0 0 P))))) : V miX3_listSets (d + 1) 50 [(0, .ref 18), (1, I_ x1), (2, I_ x2), (3, I_ x3), (4, I_ x4)] [] n (W0 dy) g 0 0 P := by
  refine v_iload 33 4 rfl rfl ?_
  refine v_iload_n 34 2 rfl rfl rfl ?_
  have c1 := h.1
  have h := h.2
  have c2 := h.1
  have h := h.2
  refine v_icmp_ge 35 rfl (tgt := 162) rfl c1 c2 (fun q3 => ?_) (fun q3 => ?_)
  · have h := h.1 q3
    refine v_iinc 100 1 [1, 0, 2, 3, 4] rfl rfl (by decide) rfl ?_
    refine v_goto 101 rfl (tgt := 29) rfl ?_
    refine v_loc [0, 1] rfl ?_
    exact h
  · have h := h.2 q3
    refine v_aload_n 36 0 rfl rfl rfl ?_
    refine v_gK 37 rfl fl3_29_2.r (al 18 rfl hn) (wk18 dy) (by decide) rfl (r := 21) (wc18_5 dy) ?_
    refine v_iload 38 4 rfl rfl ?_
    have c4 := h.1
    have h := h.2
    refine v_ia (N := 1024) 39 rfl (al 21 rfl hn) (wk21 dy) (wn21 dy) (by decide) c4 (y := g 21 x4.toNat) rfl ?_
    refine v_rng fun w5 => ?_
    have p6 : i3 (g 21 x4.toNat) := rI w5 (q := x4.toNat) (al 21 rfl hn) (wk21 dy) rfl rfl
    refine v_iconst 40 rfl ?_
    refine v_icmp_eq 41 rfl (tgt := 79) rfl p6 (by decide) (fun q7 => ?_) (fun q7 => ?_)
    · have h := h.1 q7
      refine v_iconst 49 rfl ?_
      refine v_istore 50 [1, 2, 3, 4, 5, 0] rfl (by decide) rfl ?_
      refine v_aload_n 51 0 rfl rfl rfl ?_
      refine v_gK 52 rfl fl3_29_2.r (al 18 rfl hn) (wk18 dy) (by decide) rfl (r := 21) (wc18_5 dy) ?_
      refine v_iload 53 4 rfl rfl ?_
      refine v_iload_n 54 2 rfl rfl rfl ?_
      refine v_ior 55 rfl ?_
      refine v_iload 56 5 rfl rfl ?_
      refine v_if_eq 57 rfl (tgt := 112) rfl (by decide) (fun q8 => ?_) (fun q8 => ?_)
      · refine v_iconst 68 rfl ?_
        have c9 := h.1
        have h := h.2
        refine v_iast (N := 1024) 69 rfl (al 21 rfl hn) (wk21 dy) (wn21 dy) (by decide) c9 (by decide) ?_
        refine v_aload_n 70 0 rfl rfl rfl ?_
        refine v_gK 71 rfl fl3_32_2.r (al 18 rfl hn) (wk18 dy) (by decide) rfl (r := 22) (wc18_6 dy) ?_
        refine v_iload 72 4 rfl rfl ?_
        refine v_iload_n 73 2 rfl rfl rfl ?_
        refine v_ior 74 rfl ?_
        refine v_aload_n 75 0 rfl rfl rfl ?_
        refine v_gK 76 rfl fl3_32_2.r (al 18 rfl hn) (wk18 dy) (by decide) rfl (r := 22) (wc18_6 dy) ?_
        refine v_iload 77 4 rfl rfl ?_
        refine v_ia (N := 1024) 78 rfl (al 22 rfl hn) (wk22 dy) (wn22 dy) (by decide) c4 (y := g 22 x4.toNat) rfl ?_
        refine v_rng fun w10 => ?_
        have p11 : i3 (g 22 x4.toNat) := rI w10 (q := x4.toNat) (al 22 rfl hn) (wk22 dy) rfl rfl
        refine v_iconst 79 rfl ?_
        refine v_iconst 80 rfl ?_
        refine v_aload_n 81 0 rfl rfl rfl ?_
        refine v_gI 82 rfl fl3_15_2.r (al 18 rfl hn) (wk18 dy) (by decide) rfl (wc18_1 dy) (x := g 18 1) rfl ?_
        refine v_rng fun w12 => ?_
        have p13 : i3 (g 18 1) := rI w12 (q := 1) (al 18 rfl hn) (wk18 dy) rfl rfl
        refine v_iconst 83 rfl ?_
        refine v_isub 84 rfl ?_
        refine v_iload_n 85 1 rfl rfl rfl ?_
        refine v_isub 86 rfl ?_
        refine v_imul 87 rfl ?_
        refine v_ishl 88 rfl ?_
        refine v_iadd 89 rfl ?_
        refine v_nmI (fun y14 ey14 => ?_)
        have h := h y14 ey14
        have c15 := h.1
        have h := h.2
        refine v_iast (N := 1024) 90 rfl (al 22 rfl hn) (wk22 dy) (wn22 dy) (by decide) c9 c15 ?_
        refine v_iload 91 5 rfl rfl ?_
        refine v_if_eq 92 rfl (tgt := 156) rfl (by decide) (fun q16 => ?_) (fun q16 => ?_)
        · exact h
        · exact absurd q16 (by decide)
      · exact absurd q8 (by decide)
    · have h := h.2 q7
      refine v_iload 42 4 rfl rfl ?_
      refine v_iload_n 43 3 rfl rfl rfl ?_
      refine v_iand 44 rfl ?_
      refine v_iload_n 45 3 rfl rfl rfl ?_
      have c17 := h.1
      have h := h.2
      refine v_icmp_ne 46 rfl (tgt := 79) rfl (and3_r _ _) c17 (fun q18 => ?_) (fun q18 => ?_)
      · have h := h.1 q18
        refine v_iconst 49 rfl ?_
        refine v_istore 50 [1, 2, 3, 4, 5, 0] rfl (by decide) rfl ?_
        refine v_aload_n 51 0 rfl rfl rfl ?_
        refine v_gK 52 rfl fl3_29_2.r (al 18 rfl hn) (wk18 dy) (by decide) rfl (r := 21) (wc18_5 dy) ?_
        refine v_iload 53 4 rfl rfl ?_
        refine v_iload_n 54 2 rfl rfl rfl ?_
        refine v_ior 55 rfl ?_
        refine v_iload 56 5 rfl rfl ?_
        refine v_if_eq 57 rfl (tgt := 112) rfl (by decide) (fun q19 => ?_) (fun q19 => ?_)
        · refine v_iconst 68 rfl ?_
          have c20 := h.1
          have h := h.2
          refine v_iast (N := 1024) 69 rfl (al 21 rfl hn) (wk21 dy) (wn21 dy) (by decide) c20 (by decide) ?_
          refine v_aload_n 70 0 rfl rfl rfl ?_
          refine v_gK 71 rfl fl3_32_2.r (al 18 rfl hn) (wk18 dy) (by decide) rfl (r := 22) (wc18_6 dy) ?_
          refine v_iload 72 4 rfl rfl ?_
          refine v_iload_n 73 2 rfl rfl rfl ?_
          refine v_ior 74 rfl ?_
          refine v_aload_n 75 0 rfl rfl rfl ?_
          refine v_gK 76 rfl fl3_32_2.r (al 18 rfl hn) (wk18 dy) (by decide) rfl (r := 22) (wc18_6 dy) ?_
          refine v_iload 77 4 rfl rfl ?_
          refine v_ia (N := 1024) 78 rfl (al 22 rfl hn) (wk22 dy) (wn22 dy) (by decide) c4 (y := g 22 x4.toNat) rfl ?_
          refine v_rng fun w21 => ?_
          have p22 : i3 (g 22 x4.toNat) := rI w21 (q := x4.toNat) (al 22 rfl hn) (wk22 dy) rfl rfl
          refine v_iconst 79 rfl ?_
          refine v_iconst 80 rfl ?_
          refine v_aload_n 81 0 rfl rfl rfl ?_
          refine v_gI 82 rfl fl3_15_2.r (al 18 rfl hn) (wk18 dy) (by decide) rfl (wc18_1 dy) (x := g 18 1) rfl ?_
          refine v_rng fun w23 => ?_
          have p24 : i3 (g 18 1) := rI w23 (q := 1) (al 18 rfl hn) (wk18 dy) rfl rfl
          refine v_iconst 83 rfl ?_
          refine v_isub 84 rfl ?_
          refine v_iload_n 85 1 rfl rfl rfl ?_
          refine v_isub 86 rfl ?_
          refine v_imul 87 rfl ?_
          refine v_ishl 88 rfl ?_
          refine v_iadd 89 rfl ?_
          refine v_nmI (fun y25 ey25 => ?_)
          have h := h y25 ey25
          have c26 := h.1
          have h := h.2
          refine v_iast (N := 1024) 90 rfl (al 22 rfl hn) (wk22 dy) (wn22 dy) (by decide) c20 c26 ?_
          refine v_iload 91 5 rfl rfl ?_
          refine v_if_eq 92 rfl (tgt := 156) rfl (by decide) (fun q27 => ?_) (fun q27 => ?_)
          · exact h
          · exact absurd q27 (by decide)
        · exact absurd q19 (by decide)
      · have h := h.2 q18
        refine v_iconst 47 rfl ?_
        refine v_goto 48 rfl (tgt := 80) rfl ?_
        refine v_istore 50 [1, 2, 3, 4, 5, 0] rfl (by decide) rfl ?_
        refine v_aload_n 51 0 rfl rfl rfl ?_
        refine v_gK 52 rfl fl3_29_2.r (al 18 rfl hn) (wk18 dy) (by decide) rfl (r := 21) (wc18_5 dy) ?_
        refine v_iload 53 4 rfl rfl ?_
        refine v_iload_n 54 2 rfl rfl rfl ?_
        refine v_ior 55 rfl ?_
        refine v_iload 56 5 rfl rfl ?_
        refine v_if_eq 57 rfl (tgt := 112) rfl (by decide) (fun q28 => ?_) (fun q28 => ?_)
        · exact absurd q28 (by decide)
        · refine v_aload_n 58 0 rfl rfl rfl ?_
          refine v_gK 59 rfl fl3_29_2.r (al 18 rfl hn) (wk18 dy) (by decide) rfl (r := 21) (wc18_5 dy) ?_
          refine v_iload 60 4 rfl rfl ?_
          refine v_ia (N := 1024) 61 rfl (al 21 rfl hn) (wk21 dy) (wn21 dy) (by decide) c4 (y := g 21 x4.toNat) rfl ?_
          refine v_rng fun w29 => ?_
          have p30 : i3 (g 21 x4.toNat) := rI w29 (q := x4.toNat) (al 21 rfl hn) (wk21 dy) rfl rfl
          refine v_aload_n 62 0 rfl rfl rfl ?_
          refine v_gK 63 rfl fl3_9_2.r (al 18 rfl hn) (wk18 dy) (by decide) rfl (r := 19) (wc18_0 dy) ?_
          refine v_iload_n 64 1 rfl rfl rfl ?_
          have c31 := h.1
          have h := h.2
          refine v_ia (N := 10) 65 rfl (al 19 rfl hn) (wk19 dy) (wn19 dy) (by decide) c31 (y := g 19 x1.toNat) rfl ?_
          refine v_rng fun w32 => ?_
          have p33 : i3 (g 19 x1.toNat) := rI w32 (q := x1.toNat) (al 19 rfl hn) (wk19 dy) rfl rfl
          refine v_iadd 66 rfl ?_
          refine v_goto 67 rfl (tgt := 113) rfl ?_
          refine v_nmI (fun y34 ey34 => ?_)
          have h := h y34 ey34
          have c35 := h.1
          have h := h.2
          have c36 := h.1
          have h := h.2
          refine v_iast (N := 1024) 69 rfl (al 21 rfl hn) (wk21 dy) (wn21 dy) (by decide) c35 c36 ?_
          refine v_aload_n 70 0 rfl rfl rfl ?_
          refine v_gK 71 rfl fl3_32_2.r (al 18 rfl hn) (wk18 dy) (by decide) rfl (r := 22) (wc18_6 dy) ?_
          refine v_iload 72 4 rfl rfl ?_
          refine v_iload_n 73 2 rfl rfl rfl ?_
          refine v_ior 74 rfl ?_
          refine v_aload_n 75 0 rfl rfl rfl ?_
          refine v_gK 76 rfl fl3_32_2.r (al 18 rfl hn) (wk18 dy) (by decide) rfl (r := 22) (wc18_6 dy) ?_
          refine v_iload 77 4 rfl rfl ?_
          refine v_ia (N := 1024) 78 rfl (al 22 rfl hn) (wk22 dy) (wn22 dy) (by decide) c4 (y := g 22 x4.toNat) rfl ?_
          refine v_rng fun w37 => ?_
          have p38 : i3 (g 22 x4.toNat) := rI w37 (q := x4.toNat) (al 22 rfl hn) (wk22 dy) rfl rfl
          refine v_iconst 79 rfl ?_
          refine v_iconst 80 rfl ?_
          refine v_aload_n 81 0 rfl rfl rfl ?_
          refine v_gI 82 rfl fl3_15_2.r (al 18 rfl hn) (wk18 dy) (by decide) rfl (wc18_1 dy) (x := g 18 1) rfl ?_
          refine v_rng fun w39 => ?_
          have p40 : i3 (g 18 1) := rI w39 (q := 1) (al 18 rfl hn) (wk18 dy) rfl rfl
          refine v_iconst 83 rfl ?_
          refine v_isub 84 rfl ?_
          refine v_iload_n 85 1 rfl rfl rfl ?_
          refine v_isub 86 rfl ?_
          refine v_imul 87 rfl ?_
          refine v_ishl 88 rfl ?_
          refine v_iadd 89 rfl ?_
          refine v_nmI (fun y41 ey41 => ?_)
          have h := h y41 ey41
          have c42 := h.1
          have h := h.2
          refine v_iast (N := 1024) 90 rfl (al 22 rfl hn) (wk22 dy) (wn22 dy) (by decide) c35 c42 ?_
          refine v_iload 91 5 rfl rfl ?_
          refine v_if_eq 92 rfl (tgt := 156) rfl (by decide) (fun q43 => ?_) (fun q43 => ?_)
          · exact absurd q43 (by decide)
          · refine v_aload_n 93 0 rfl rfl rfl ?_
            refine v_iload 94 4 rfl rfl ?_
            refine v_iload_n 95 2 rfl rfl rfl ?_
            refine v_ior 96 rfl ?_
            refine v_callV (st := []) [I_ (or3 x4 x2)] 97 rfl lv3_116_listSets_2 (al 18 rfl hn) (wk18 dy) (by decide) rfl (Nat.le_refl _) (Nat.le_refl _) ?_
            exact h
set_option maxHeartbeats 8000000 in
set_option maxRecDepth 4000 in
theorem bX3_listSets_156 {d n : Nat} {dy : Nat → Shp} {g : Hp} {P : Pst} {x1 : Int} {x2 : Int} {x3 : Int} {x4 : Int} {x5 : Int} (hn : 100 ≤ n) (h : V miX3_listSets (d + 1) 50 [(0, .ref 18), (1, I_ x1), (2, I_ x2), (3, I_ x3), (4, I_ (x4 + 1))] [] n (W0 dy) g 0 0 P) : V miX3_listSets (d + 1) 156 [(0, .ref 18), (1, I_ x1), (2, I_ x2), (3, I_ x3), (4, I_ x4), (5, I_ x5)] [] n (W0 dy) g 0 0 P := by
  refine v_iinc 98 4 [1, 2, 3, 4, 0, 5] rfl rfl (by decide) rfl ?_
  refine v_goto 99 rfl (tgt := 50) rfl ?_
  refine v_loc [0, 1, 2, 3, 4] rfl ?_
  exact h
theorem wX3_listSets {d n : Nat} {dy : Nat → Shp} {g : Hp} {P : Pst}  (hn : 100 ≤ n) (h : Runs miJ7_fill_53178 d [.ref 33, I_ 0] n (W0 dy) g (fun v n' S' g' => V miX3_listSets (d + 1) 8 [(0, .ref 18)] (v.toList ++ []) n' S' g' 0 0 P)) : Runs miX3_listSets (d + 1) [.ref 18] n (W0 dy) g P := Runs.of rfl rfl deX3_listSets (Nat.le_of_ble_eq_true rfl) (bX3_listSets_0 hn h)
set_option maxHeartbeats 8000000 in
set_option maxRecDepth 4000 in
theorem bX3_likeAhead_0 {d n : Nat} {dy : Nat → Shp} {g : Hp} {P : Pst} {x1 : Int} (hn : 100 ≤ n) (h : V miX3_likeAhead d 4 [(0, .ref 18), (1, I_ x1), (2, I_ (x1 - 1))] [] n (W0 dy) g 0 0 P) : V miX3_likeAhead d 0 [(0, .ref 18), (1, I_ x1)] [] n (W0 dy) g 0 0 P := by
  refine v_iload_n 0 1 rfl rfl rfl ?_
  refine v_iconst 1 rfl ?_
  refine v_isub 2 rfl ?_
  refine v_istore_n 3 [1, 2, 0] rfl rfl (by decide) rfl ?_
  exact h
set_option maxHeartbeats 8000000 in
set_option maxRecDepth 4000 in
theorem bX3_likeAhead_4 {d n : Nat} {dy : Nat → Shp} {g : Hp} {P : Pst} {x1 : Int} {x2 : Int} (hn : 100 ≤ n) (h : (i3 x2) ∧ ((x2 < 0) → P (some (I_ 0)) n (W0 dy) g) ∧ ((0 ≤ x2) → (0 ≤ x2 ∧ x2 < 10) ∧ (0 ≤ x1 ∧ x1 < 10) ∧ (((g 19 x2.toNat) ≠ (g 19 x1.toNat)) → V miX3_likeAhead d 4 [(0, .ref 18), (1, I_ x1), (2, I_ (x2 + (-1)))] [] n (W0 dy) g 0 0 P) ∧ (((g 19 x2.toNat) = (g 19 x1.toNat)) → P (some (I_ (shl3 1 x2))) n (W0 dy) g))) : V miX3_likeAhead d 4 [(0, .ref 18), (1, I_ x1), (2, I_ x2)] [] n (W0 dy) g 0 0 P := by
  refine v_iload_n 4 2 rfl rfl rfl ?_
  have c1 := h.1
  have h := h.2
  refine v_if_lt 5 rfl (tgt := 33) rfl c1 (fun q2 => ?_) (fun q2 => ?_)
  · have h := h.1 q2
    refine v_iconst 21 rfl ?_
    exact v_ret (v := some (I_ 0)) 22 rfl (Nat.zero_le _) (Nat.zero_le _) trivial rfl h
  · have h := h.2 q2
    refine v_aload_n 6 0 rfl rfl rfl ?_
    refine v_gK 7 rfl fl3_9_2.r (al 18 rfl hn) (wk18 dy) (by decide) rfl (r := 19) (wc18_0 dy) ?_
    refine v_iload_n 8 2 rfl rfl rfl ?_
    have c3 := h.1
    have h := h.2
    refine v_ia (N := 10) 9 rfl (al 19 rfl hn) (wk19 dy) (wn19 dy) (by decide) c3 (y := g 19 x2.toNat) rfl ?_
    refine v_rng fun w4 => ?_
    have p5 : i3 (g 19 x2.toNat) := rI w4 (q := x2.toNat) (al 19 rfl hn) (wk19 dy) rfl rfl
    refine v_aload_n 10 0 rfl rfl rfl ?_
    refine v_gK 11 rfl fl3_9_2.r (al 18 rfl hn) (wk18 dy) (by decide) rfl (r := 19) (wc18_0 dy) ?_
    refine v_iload_n 12 1 rfl rfl rfl ?_
    have c6 := h.1
    have h := h.2
    refine v_ia (N := 10) 13 rfl (al 19 rfl hn) (wk19 dy) (wn19 dy) (by decide) c6 (y := g 19 x1.toNat) rfl ?_
    refine v_rng fun w7 => ?_
    have p8 : i3 (g 19 x1.toNat) := rI w7 (q := x1.toNat) (al 19 rfl hn) (wk19 dy) rfl rfl
    refine v_icmp_ne 14 rfl (tgt := 27) rfl p5 p8 (fun q9 => ?_) (fun q9 => ?_)
    · have h := h.1 q9
      refine v_iinc 19 2 [1, 2, 0] rfl rfl (by decide) rfl ?_
      refine v_goto 20 rfl (tgt := 4) rfl ?_
      exact h
    · have h := h.2 q9
      refine v_iconst 15 rfl ?_
      refine v_iload_n 16 2 rfl rfl rfl ?_
      refine v_ishl 17 rfl ?_
      exact v_ret (v := some (I_ (shl3 1 x2))) 18 rfl (Nat.zero_le _) (Nat.zero_le _) trivial rfl h
theorem wX3_likeAhead {d n : Nat} {dy : Nat → Shp} {g : Hp} {P : Pst} {x1 : Int} (hn : 100 ≤ n) (h : V miX3_likeAhead d 4 [(0, .ref 18), (1, I_ x1), (2, I_ (x1 - 1))] [] n (W0 dy) g 0 0 P) : Runs miX3_likeAhead d [.ref 18, I_ x1] n (W0 dy) g P := Runs.of rfl rfl deX3_likeAhead (Nat.le_of_ble_eq_true rfl) (bX3_likeAhead_0 hn h)
theorem fl3_37_2 : FL RX3 37 2 7 true (.array (.array .int)) := ⟨RX3, TX3, 11, "MobileMaker$Parting", rfl, rfl, by decide, kf2, tbG_in (List.mem_append_right _ (List.mem_of_getElem? (i := 145) (by decide +kernel))) rfl, Or.inl rfl, rfl, by decide +kernel, ⟨tyX3, tyX3_ok⟩, nmX3, fun _ => rfl⟩
set_option maxHeartbeats 8000000 in
set_option maxRecDepth 4000 in
theorem bX3_list_0 {d n : Nat} {dy : Nat → Shp} {g : Hp} {P : Pst} {x1 : Int} (hn : 100 ≤ n) (h : (0 ≤ x1 ∧ x1 < 1024) ∧ V miX3_list d 9 [(0, .ref 18), (1, I_ x1), (2, I_ 0)] [] n (W0 dy) (up2 g 34 x1.toNat 0) 0 0 P) : V miX3_list d 0 [(0, .ref 18), (1, I_ x1)] [] n (W0 dy) g 0 0 P := by
  refine v_aload_n 0 0 rfl rfl rfl ?_
  refine v_gK 1 rfl fl3_43_2.r (al 18 rfl hn) (wk18 dy) (by decide) rfl (r := 34) (wc18_9 dy) ?_
  refine v_iload_n 2 1 rfl rfl rfl ?_
  refine v_iconst 3 rfl ?_
  have c1 := h.1
  have h := h.2
  refine v_iast (N := 1024) 4 rfl (al 34 rfl hn) (wk34 dy) (wn34 dy) (by decide) c1 (by decide) ?_
  refine v_iconst 5 rfl ?_
  refine v_istore_n 6 [1, 2, 0] rfl rfl (by decide) rfl ?_
  exact h
set_option maxHeartbeats 8000000 in
set_option maxRecDepth 4000 in
theorem bX3_list_9 {d n : Nat} {dy : Nat → Shp} {g : Hp} {P : Pst} {x1 : Int} {x2 : Int} (hn : 100 ≤ n) (h : (i3 x2) ∧ (((g 18 3) < x2) → P none n (W0 dy) g) ∧ ((x2 ≤ (g 18 3)) → (0 ≤ x1 ∧ x1 < 1024) ∧ (0 ≤ x2 ∧ x2 < 9) ∧ (((g 21 x1.toNat) ≠ (g 20 x2.toNat)) → V miX3_list d 9 [(0, .ref 18), (1, I_ x1), (2, I_ (x2 + 1))] [] n (W0 dy) g 0 0 P) ∧ (((g 21 x1.toNat) = (g 20 x2.toNat)) → ((252 ≤ (g 33 x2.toNat)) → V miX3_list d 9 [(0, .ref 18), (1, I_ x1), (2, I_ (x2 + 1))] [] n (W0 dy) g 0 0 P) ∧ (((g 33 x2.toNat) < 252) → (Ar n (W0 dy) ((g 23 x2.toNat).toNat) 13 252) ∧ (0 ≤ g 33 x2.toNat ∧ g 33 x2.toNat < 252) ∧ ∀ y21 : Int, y21 = ((up2 g ((g 23 x2.toNat).toNat) ((g 33 x2.toNat).toNat) x1) 33 x2.toNat) + 1 → (i3 y21) ∧ V miX3_list d 9 [(0, .ref 18), (1, I_ x1), (2, I_ (x2 + 1))] [] n (W0 dy) (up2 (up2 g ((g 23 x2.toNat).toNat) ((g 33 x2.toNat).toNat) x1) 33 x2.toNat y21) 0 0 P)))) : V miX3_list d 9 [(0, .ref 18), (1, I_ x1), (2, I_ x2)] [] n (W0 dy) g 0 0 P := by
  refine v_iload_n 7 2 rfl rfl rfl ?_
  refine v_aload_n 8 0 rfl rfl rfl ?_
  refine v_gI 9 rfl fl3_22_2.r (al 18 rfl hn) (wk18 dy) (by decide) rfl (wc18_3 dy) (x := g 18 3) rfl ?_
  refine v_rng fun w1 => ?_
  have p2 : i3 (g 18 3) := rI w1 (q := 3) (al 18 rfl hn) (wk18 dy) rfl rfl
  have c3 := h.1
  have h := h.2
  refine v_icmp_gt 10 rfl (tgt := 74) rfl c3 p2 (fun q4 => ?_) (fun q4 => ?_)
  · have h := h.1 q4
    exact v_ret (v := none) 46 rfl (Nat.zero_le _) (Nat.zero_le _) trivial rfl h
  · have h := h.2 q4
    refine v_aload_n 11 0 rfl rfl rfl ?_
    refine v_gK 12 rfl fl3_29_2.r (al 18 rfl hn) (wk18 dy) (by decide) rfl (r := 21) (wc18_5 dy) ?_
    refine v_iload_n 13 1 rfl rfl rfl ?_
    have c5 := h.1
    have h := h.2
    refine v_ia (N := 1024) 14 rfl (al 21 rfl hn) (wk21 dy) (wn21 dy) (by decide) c5 (y := g 21 x1.toNat) rfl ?_
    refine v_rng fun w6 => ?_
    have p7 : i3 (g 21 x1.toNat) := rI w6 (q := x1.toNat) (al 21 rfl hn) (wk21 dy) rfl rfl
    refine v_aload_n 15 0 rfl rfl rfl ?_
    refine v_gK 16 rfl fl3_19_2.r (al 18 rfl hn) (wk18 dy) (by decide) rfl (r := 20) (wc18_2 dy) ?_
    refine v_iload_n 17 2 rfl rfl rfl ?_
    have c8 := h.1
    have h := h.2
    refine v_ia (N := 9) 18 rfl (al 20 rfl hn) (wk20 dy) (wn20 dy) (by decide) c8 (y := g 20 x2.toNat) rfl ?_
    refine v_rng fun w9 => ?_
    have p10 : i3 (g 20 x2.toNat) := rI w9 (q := x2.toNat) (al 20 rfl hn) (wk20 dy) rfl rfl
    refine v_icmp_ne 19 rfl (tgt := 68) rfl p7 p10 (fun q11 => ?_) (fun q11 => ?_)
    · have h := h.1 q11
      refine v_iinc 44 2 [1, 2, 0] rfl rfl (by decide) rfl ?_
      refine v_goto 45 rfl (tgt := 9) rfl ?_
      exact h
    · have h := h.2 q11
      refine v_aload_n 20 0 rfl rfl rfl ?_
      refine v_gK 21 rfl fl3_40_2.r (al 18 rfl hn) (wk18 dy) (by decide) rfl (r := 33) (wc18_8 dy) ?_
      refine v_iload_n 22 2 rfl rfl rfl ?_
      refine v_ia (N := 9) 23 rfl (al 33 rfl hn) (wk33 dy) (wn33 dy) (by decide) c8 (y := g 33 x2.toNat) rfl ?_
      refine v_rng fun w12 => ?_
      have p13 : i3 (g 33 x2.toNat) := rI w12 (q := x2.toNat) (al 33 rfl hn) (wk33 dy) rfl rfl
      refine v_sipush 24 rfl (by decide) ?_
      refine v_icmp_ge 25 rfl (tgt := 68) rfl p13 (by decide) (fun q14 => ?_) (fun q14 => ?_)
      · have h := h.1 q14
        refine v_iinc 44 2 [1, 2, 0] rfl rfl (by decide) rfl ?_
        refine v_goto 45 rfl (tgt := 9) rfl ?_
        exact h
      · have h := h.2 q14
        refine v_aload_n 26 0 rfl rfl rfl ?_
        refine v_gK 27 rfl fl3_37_2.r (al 18 rfl hn) (wk18 dy) (by decide) rfl (r := 23) (wc18_7 dy) ?_
        refine v_iload_n 28 2 rfl rfl rfl ?_
        refine v_aa (N := 9) 29 rfl (al 23 rfl hn) (wk23 dy) (wn23 dy) (by decide) c8 (y := g 23 x2.toNat) rfl ?_
        refine v_aload_n 30 0 rfl rfl rfl ?_
        refine v_gK 31 rfl fl3_40_2.r (al 18 rfl hn) (wk18 dy) (by decide) rfl (r := 33) (wc18_8 dy) ?_
        refine v_iload_n 32 2 rfl rfl rfl ?_
        refine v_ia (N := 9) 33 rfl (al 33 rfl hn) (wk33 dy) (wn33 dy) (by decide) c8 (y := g 33 x2.toNat) rfl ?_
        refine v_rng fun w15 => ?_
        have p16 : i3 (g 33 x2.toNat) := rI w15 (q := x2.toNat) (al 33 rfl hn) (wk33 dy) rfl rfl
        refine v_iload_n 34 1 rfl rfl rfl ?_
        have c17 := h.1
        have h := h.2
        have c18 := h.1
        have h := h.2
        refine v_iast (N := 252) 35 rfl c17.1 c17.2.1 c17.2.2 (by decide) c18 (ix3 c5 (by decide)) ?_
        refine v_aload_n 36 0 rfl rfl rfl ?_
        refine v_gK 37 rfl fl3_40_2.r (al 18 rfl hn) (wk18 dy) (by decide) rfl (r := 33) (wc18_8 dy) ?_
        refine v_iload_n 38 2 rfl rfl rfl ?_
        refine v_dup2 39 rfl (by intro h; cases h) (by intro h; cases h) ?_
        refine v_ia (N := 9) 40 rfl (al 33 rfl hn) (wk33 dy) (wn33 dy) (by decide) c8 (y := (up2 g ((g 23 x2.toNat).toNat) ((g 33 x2.toNat).toNat) x1) 33 x2.toNat) rfl ?_
        refine v_rng fun w19 => ?_
        have p20 : i3 ((up2 g ((g 23 x2.toNat).toNat) ((g 33 x2.toNat).toNat) x1) 33 x2.toNat) := rI w19 (q := x2.toNat) (al 33 rfl hn) (wk33 dy) rfl rfl
        refine v_iconst 41 rfl ?_
        refine v_iadd 42 rfl ?_
        refine v_nmI (fun y21 ey21 => ?_)
        have h := h y21 ey21
        have c22 := h.1
        have h := h.2
        refine v_iast (N := 9) 43 rfl (al 33 rfl hn) (wk33 dy) (wn33 dy) (by decide) c8 c22 ?_
        refine v_iinc 44 2 [1, 2, 0] rfl rfl (by decide) rfl ?_
        refine v_goto 45 rfl (tgt := 9) rfl ?_
        exact h
theorem wX3_list {d n : Nat} {dy : Nat → Shp} {g : Hp} {P : Pst} {x1 : Int} (hn : 100 ≤ n) (h : (0 ≤ x1 ∧ x1 < 1024) ∧ V miX3_list d 9 [(0, .ref 18), (1, I_ x1), (2, I_ 0)] [] n (W0 dy) (up2 g 34 x1.toNat 0) 0 0 P) : Runs miX3_list d [.ref 18, I_ x1] n (W0 dy) g P := Runs.of rfl rfl deX3_list (Nat.le_of_ble_eq_true rfl) (bX3_list_0 hn h)
theorem lv3_122_goOnFrom_2 : LkV miX3_goOnFrom miX3_extend 122 3 2 := ⟨⟨⟨tbG_in (List.mem_append_right _ (List.mem_of_getElem? (i := 946) (by decide +kernel))) rfl, tbG_in (List.mem_append_right _ (List.mem_of_getElem? (i := 6) (by decide +kernel))) rfl, tbG_in (List.mem_append_right _ (List.mem_of_getElem? (i := 943) (by decide +kernel))) rfl⟩, ⟨by decide +kernel, by decide +kernel, by decide +kernel⟩, by decide⟩, tbG_in (List.mem_append_right _ (List.mem_of_getElem? (i := 945) (by decide +kernel))) rfl, RX3, TX3, 11, rfl, tbG_in (List.mem_append_left _ (List.mem_of_getElem? (i := 37) (by decide +kernel))) rfl⟩
set_option maxHeartbeats 8000000 in
set_option maxRecDepth 4000 in
theorem bX3_goOnFrom_0 {d n : Nat} {dy : Nat → Shp} {g : Hp} {P : Pst} {x1 : Int} (hn : 100 ≤ n) (h : V miX3_goOnFrom (d + 1) 2 [(0, .ref 18), (1, I_ x1), (2, I_ 0)] [] n (W0 dy) g 0 0 P) : V miX3_goOnFrom (d + 1) 0 [(0, .ref 18), (1, I_ x1)] [] n (W0 dy) g 0 0 P := by
  refine v_iconst 0 rfl ?_
  refine v_istore_n 1 [1, 2, 0] rfl rfl (by decide) rfl ?_
  exact h
set_option maxHeartbeats 8000000 in
set_option maxRecDepth 4000 in
theorem bX3_goOnFrom_2 {d n : Nat} {dy : Nat → Shp} {g : Hp} {P : Pst} {x1 : Int} {x2 : Int} (hn : 100 ≤ n) (h : (0 ≤ x1 ∧ x1 < 9) ∧ (i3 x2) ∧ (((g 33 x1.toNat) ≤ x2) → P none n (W0 dy) g) ∧ ((x2 < (g 33 x1.toNat)) → (Ar n (W0 dy) ((g 23 x1.toNat).toNat) 13 252) ∧ (0 ≤ x2 ∧ x2 < 252) ∧ ∀ y10 : Int, y10 = g ((g 23 x1.toNat).toNat) x2.toNat → V miX3_goOnFrom (d + 1) 24 [(0, .ref 18), (1, I_ x1), (2, I_ x2), (3, I_ y10), (4, I_ 0)] [] n (W0 dy) g 0 0 P)) : V miX3_goOnFrom (d + 1) 2 [(0, .ref 18), (1, I_ x1), (2, I_ x2)] [] n (W0 dy) g 0 0 P := by
  refine v_iload_n 2 2 rfl rfl rfl ?_
  refine v_aload_n 3 0 rfl rfl rfl ?_
  refine v_gK 4 rfl fl3_40_2.r (al 18 rfl hn) (wk18 dy) (by decide) rfl (r := 33) (wc18_8 dy) ?_
  refine v_iload_n 5 1 rfl rfl rfl ?_
  have c1 := h.1
  have h := h.2
  refine v_ia (N := 9) 6 rfl (al 33 rfl hn) (wk33 dy) (wn33 dy) (by decide) c1 (y := g 33 x1.toNat) rfl ?_
  refine v_rng fun w2 => ?_
  have p3 : i3 (g 33 x1.toNat) := rI w2 (q := x1.toNat) (al 33 rfl hn) (wk33 dy) rfl rfl
  have c4 := h.1
  have h := h.2
  refine v_icmp_ge 7 rfl (tgt := 109) rfl c4 p3 (fun q5 => ?_) (fun q5 => ?_)
  · have h := h.1 q5
    exact v_ret (v := none) 68 rfl (Nat.zero_le _) (Nat.zero_le _) trivial rfl h
  · have h := h.2 q5
    refine v_aload_n 8 0 rfl rfl rfl ?_
    refine v_gK 9 rfl fl3_37_2.r (al 18 rfl hn) (wk18 dy) (by decide) rfl (r := 23) (wc18_7 dy) ?_
    refine v_iload_n 10 1 rfl rfl rfl ?_
    refine v_aa (N := 9) 11 rfl (al 23 rfl hn) (wk23 dy) (wn23 dy) (by decide) c1 (y := g 23 x1.toNat) rfl ?_
    refine v_iload_n 12 2 rfl rfl rfl ?_
    have c6 := h.1
    have h := h.2
    have c7 := h.1
    have h := h.2
    refine v_ia (N := 252) 13 rfl c6.1 c6.2.1 c6.2.2 (by decide) c7 (y := g ((g 23 x1.toNat).toNat) x2.toNat) rfl ?_
    refine v_rng fun w8 => ?_
    have p9 : i3 (g ((g 23 x1.toNat).toNat) x2.toNat) := rI w8 (q := x2.toNat) c6.1 c6.2.1 rfl rfl
    refine v_nmI (fun y10 ey10 => ?_)
    have h := h y10 ey10
    have ry10 : i3 y10 := by rw [ey10]; exact p9
    refine v_istore_n 14 [1, 2, 3, 0] rfl rfl (by decide) rfl ?_
    refine v_iconst 15 rfl ?_
    refine v_istore 16 [1, 2, 3, 4, 0] rfl (by decide) rfl ?_
    exact h
set_option maxHeartbeats 8000000 in
set_option maxRecDepth 4000 in
theorem bX3_goOnFrom_24 {d n : Nat} {dy : Nat → Shp} {g : Hp} {P : Pst} {x1 : Int} {x2 : Int} {x3 : Int} {x4 : Int} (hn : 100 ≤ n) (h : (0 ≤ x3 ∧ x3 < 1024) ∧ (((g 34 x3.toNat) ≤ 0) → V miX3_goOnFrom (d + 1) 2 [(0, .ref 18), (1, I_ x1), (2, I_ (x2 + 1))] [] n (W0 dy) g 0 0 P) ∧ ((0 < (g 34 x3.toNat)) → (0 ≤ x1 + 1 ∧ x1 + 1 < 9) ∧ (i3 x4) ∧ (((g 33 ((x1 + 1).toNat)) ≤ x4) → V miX3_goOnFrom (d + 1) 2 [(0, .ref 18), (1, I_ x1), (2, I_ (x2 + 1))] [] n (W0 dy) g 0 0 P) ∧ ((x4 < (g 33 ((x1 + 1).toNat))) → (Ar n (W0 dy) ((g 23 ((x1 + 1).toNat)).toNat) 13 252) ∧ (0 ≤ x4 ∧ x4 < 252) ∧ ∀ y14 : Int, y14 = g ((g 23 ((x1 + 1).toNat)).toNat) x4.toNat → (((and3 x3 y14) ≠ x3) → V miX3_goOnFrom (d + 1) 97 [(0, .ref 18), (1, I_ x1), (2, I_ x2), (3, I_ x3), (4, I_ x4), (5, I_ y14)] [] n (W0 dy) g 0 0 P) ∧ (((and3 x3 y14) = x3) → (0 ≤ y14 ∧ y14 < 1024) ∧ Runs miX3_extend d [.ref 18, I_ x3, I_ y14, I_ ((g 35 x3.toNat) + (x1 * ((g 22 y14.toNat) - (g 22 x3.toNat))))] n (W0 dy) g (fun v n' S' g' => V miX3_goOnFrom (d + 1) 97 [(0, .ref 18), (1, I_ x1), (2, I_ x2), (3, I_ x3), (4, I_ x4), (5, I_ y14)] (v.toList ++ []) n' S' g' 0 0 P))))) : V miX3_goOnFrom (d + 1) 24 [(0, .ref 18), (1, I_ x1), (2, I_ x2), (3, I_ x3), (4, I_ x4)] [] n (W0 dy) g 0 0 P := by
  refine v_aload_n 17 0 rfl rfl rfl ?_
  refine v_gK 18 rfl fl3_43_2.r (al 18 rfl hn) (wk18 dy) (by decide) rfl (r := 34) (wc18_9 dy) ?_
  refine v_iload_n 19 3 rfl rfl rfl ?_
  have c1 := h.1
  have h := h.2
  refine v_ia (N := 1024) 20 rfl (al 34 rfl hn) (wk34 dy) (wn34 dy) (by decide) c1 (y := g 34 x3.toNat) rfl ?_
  refine v_rng fun w2 => ?_
  have p3 : i3 (g 34 x3.toNat) := rI w2 (q := x3.toNat) (al 34 rfl hn) (wk34 dy) rfl rfl
  refine v_if_le 21 rfl (tgt := 103) rfl p3 (fun q4 => ?_) (fun q4 => ?_)
  · have h := h.1 q4
    refine v_iinc 66 2 [1, 2, 0, 3, 4] rfl rfl (by decide) rfl ?_
    refine v_goto 67 rfl (tgt := 2) rfl ?_
    refine v_loc [0, 1, 2] rfl ?_
    exact h
  · have h := h.2 q4
    refine v_iload 22 4 rfl rfl ?_
    refine v_aload_n 23 0 rfl rfl rfl ?_
    refine v_gK 24 rfl fl3_40_2.r (al 18 rfl hn) (wk18 dy) (by decide) rfl (r := 33) (wc18_8 dy) ?_
    refine v_iload_n 25 1 rfl rfl rfl ?_
    refine v_iconst 26 rfl ?_
    refine v_iadd 27 rfl ?_
    have c5 := h.1
    have h := h.2
    refine v_ia (N := 9) 28 rfl (al 33 rfl hn) (wk33 dy) (wn33 dy) (by decide) c5 (y := g 33 ((x1 + 1).toNat)) rfl ?_
    refine v_rng fun w6 => ?_
    have p7 : i3 (g 33 ((x1 + 1).toNat)) := rI w6 (q := ((x1 + 1).toNat)) (al 33 rfl hn) (wk33 dy) rfl rfl
    have c8 := h.1
    have h := h.2
    refine v_icmp_ge 29 rfl (tgt := 103) rfl c8 p7 (fun q9 => ?_) (fun q9 => ?_)
    · have h := h.1 q9
      refine v_iinc 66 2 [1, 2, 0, 3, 4] rfl rfl (by decide) rfl ?_
      refine v_goto 67 rfl (tgt := 2) rfl ?_
      refine v_loc [0, 1, 2] rfl ?_
      exact h
    · have h := h.2 q9
      refine v_aload_n 30 0 rfl rfl rfl ?_
      refine v_gK 31 rfl fl3_37_2.r (al 18 rfl hn) (wk18 dy) (by decide) rfl (r := 23) (wc18_7 dy) ?_
      refine v_iload_n 32 1 rfl rfl rfl ?_
      refine v_iconst 33 rfl ?_
      refine v_iadd 34 rfl ?_
      refine v_aa (N := 9) 35 rfl (al 23 rfl hn) (wk23 dy) (wn23 dy) (by decide) c5 (y := g 23 ((x1 + 1).toNat)) rfl ?_
      refine v_iload 36 4 rfl rfl ?_
      have c10 := h.1
      have h := h.2
      have c11 := h.1
      have h := h.2
      refine v_ia (N := 252) 37 rfl c10.1 c10.2.1 c10.2.2 (by decide) c11 (y := g ((g 23 ((x1 + 1).toNat)).toNat) x4.toNat) rfl ?_
      refine v_rng fun w12 => ?_
      have p13 : i3 (g ((g 23 ((x1 + 1).toNat)).toNat) x4.toNat) := rI w12 (q := x4.toNat) c10.1 c10.2.1 rfl rfl
      refine v_nmI (fun y14 ey14 => ?_)
      have h := h y14 ey14
      have ry14 : i3 y14 := by rw [ey14]; exact p13
      refine v_istore 38 [1, 2, 3, 4, 5, 0] rfl (by decide) rfl ?_
      refine v_iload_n 39 3 rfl rfl rfl ?_
      refine v_iload 40 5 rfl rfl ?_
      refine v_iand 41 rfl ?_
      refine v_iload_n 42 3 rfl rfl rfl ?_
      refine v_icmp_ne 43 rfl (tgt := 97) rfl (and3_r _ _) (ix3 c1 (by decide)) (fun q15 => ?_) (fun q15 => ?_)
      · have h := h.1 q15
        exact h
      · have h := h.2 q15
        refine v_aload_n 44 0 rfl rfl rfl ?_
        refine v_iload_n 45 3 rfl rfl rfl ?_
        refine v_iload 46 5 rfl rfl ?_
        refine v_aload_n 47 0 rfl rfl rfl ?_
        refine v_gK 48 rfl fl3_46_2.r (al 18 rfl hn) (wk18 dy) (by decide) rfl (r := 35) (wc18_10 dy) ?_
        refine v_iload_n 49 3 rfl rfl rfl ?_
        refine v_ia (N := 1024) 50 rfl (al 35 rfl hn) (wk35 dy) (wn35 dy) (by decide) c1 (y := g 35 x3.toNat) rfl ?_
        refine v_rng fun w16 => ?_
        have p17 : i3 (g 35 x3.toNat) := rI w16 (q := x3.toNat) (al 35 rfl hn) (wk35 dy) rfl rfl
        refine v_iload_n 51 1 rfl rfl rfl ?_
        refine v_aload_n 52 0 rfl rfl rfl ?_
        refine v_gK 53 rfl fl3_32_2.r (al 18 rfl hn) (wk18 dy) (by decide) rfl (r := 22) (wc18_6 dy) ?_
        refine v_iload 54 5 rfl rfl ?_
        have c18 := h.1
        have h := h.2
        refine v_ia (N := 1024) 55 rfl (al 22 rfl hn) (wk22 dy) (wn22 dy) (by decide) c18 (y := g 22 y14.toNat) rfl ?_
        refine v_rng fun w19 => ?_
        have p20 : i3 (g 22 y14.toNat) := rI w19 (q := y14.toNat) (al 22 rfl hn) (wk22 dy) rfl rfl
        refine v_aload_n 56 0 rfl rfl rfl ?_
        refine v_gK 57 rfl fl3_32_2.r (al 18 rfl hn) (wk18 dy) (by decide) rfl (r := 22) (wc18_6 dy) ?_
        refine v_iload_n 58 3 rfl rfl rfl ?_
        refine v_ia (N := 1024) 59 rfl (al 22 rfl hn) (wk22 dy) (wn22 dy) (by decide) c1 (y := g 22 x3.toNat) rfl ?_
        refine v_rng fun w21 => ?_
        have p22 : i3 (g 22 x3.toNat) := rI w21 (q := x3.toNat) (al 22 rfl hn) (wk22 dy) rfl rfl
        refine v_isub 60 rfl ?_
        refine v_imul 61 rfl ?_
        refine v_iadd 62 rfl ?_
        refine v_callV (st := []) [I_ x3, I_ y14, I_ ((g 35 x3.toNat) + (x1 * ((g 22 y14.toNat) - (g 22 x3.toNat))))] 63 rfl lv3_122_goOnFrom_2 (al 18 rfl hn) (wk18 dy) (by decide) rfl (Nat.le_refl _) (Nat.le_refl _) ?_
        exact h
set_option maxHeartbeats 8000000 in
set_option maxRecDepth 4000 in
theorem bX3_goOnFrom_97 {d n : Nat} {dy : Nat → Shp} {g : Hp} {P : Pst} {x1 : Int} {x2 : Int} {x3 : Int} {x4 : Int} {x5 : Int} (hn : 100 ≤ n) (h : V miX3_goOnFrom (d + 1) 24 [(0, .ref 18), (1, I_ x1), (2, I_ x2), (3, I_ x3), (4, I_ (x4 + 1))] [] n (W0 dy) g 0 0 P) : V miX3_goOnFrom (d + 1) 97 [(0, .ref 18), (1, I_ x1), (2, I_ x2), (3, I_ x3), (4, I_ x4), (5, I_ x5)] [] n (W0 dy) g 0 0 P := by
  refine v_iinc 64 4 [1, 2, 3, 4, 0, 5] rfl rfl (by decide) rfl ?_
  refine v_goto 65 rfl (tgt := 24) rfl ?_
  refine v_loc [0, 1, 2, 3, 4] rfl ?_
  exact h
theorem wX3_goOnFrom {d n : Nat} {dy : Nat → Shp} {g : Hp} {P : Pst} {x1 : Int} (hn : 100 ≤ n) (h : V miX3_goOnFrom (d + 1) 2 [(0, .ref 18), (1, I_ x1), (2, I_ 0)] [] n (W0 dy) g 0 0 P) : Runs miX3_goOnFrom (d + 1) [.ref 18, I_ x1] n (W0 dy) g P := Runs.of rfl rfl deX3_goOnFrom (Nat.le_of_ble_eq_true rfl) (bX3_goOnFrom_0 hn h)
set_option maxHeartbeats 8000000 in
set_option maxRecDepth 4000 in
theorem bX3_extend_0 {d n : Nat} {dy : Nat → Shp} {g : Hp} {P : Pst} {x1 : Int} {x2 : Int} {x3 : Int} (hn : 100 ≤ n) (h : (0 ≤ x2 ∧ x2 < 1024) ∧ (((g 34 x2.toNat) = 0) → (i3 x3) ∧ (0 ≤ x1 ∧ x1 < 1024) ∧ ∀ y11 : Int, y11 = (g 34 x2.toNat) + (g 34 x1.toNat) → (i3 y11) ∧ P none n (W0 dy) (up2 (up2 g 35 x2.toNat x3) 34 x2.toNat y11)) ∧ (((g 34 x2.toNat) ≠ 0) → (i3 x3) ∧ (((g 35 x2.toNat) ≤ x3) → (0 ≤ x1 ∧ x1 < 1024) ∧ ∀ y22 : Int, y22 = (g 34 x2.toNat) + (g 34 x1.toNat) → (i3 y22) ∧ P none n (W0 dy) (up2 g 34 x2.toNat y22)) ∧ ((x3 < (g 35 x2.toNat)) → (0 ≤ x1 ∧ x1 < 1024) ∧ ∀ y29 : Int, y29 = (g 34 x2.toNat) + (g 34 x1.toNat) → (i3 y29) ∧ P none n (W0 dy) (up2 (up2 g 35 x2.toNat x3) 34 x2.toNat y29)))) : V miX3_extend d 0 [(0, .ref 18), (1, I_ x1), (2, I_ x2), (3, I_ x3)] [] n (W0 dy) g 0 0 P := by
  refine v_aload_n 0 0 rfl rfl rfl ?_
  refine v_gK 1 rfl fl3_43_2.r (al 18 rfl hn) (wk18 dy) (by decide) rfl (r := 34) (wc18_9 dy) ?_
  refine v_iload_n 2 2 rfl rfl rfl ?_
  have c1 := h.1
  have h := h.2
  refine v_ia (N := 1024) 3 rfl (al 34 rfl hn) (wk34 dy) (wn34 dy) (by decide) c1 (y := g 34 x2.toNat) rfl ?_
  refine v_rng fun w2 => ?_
  have p3 : i3 (g 34 x2.toNat) := rI w2 (q := x2.toNat) (al 34 rfl hn) (wk34 dy) rfl rfl
  refine v_if_eq 4 rfl (tgt := 19) rfl p3 (fun q4 => ?_) (fun q4 => ?_)
  · have h := h.1 q4
    refine v_aload_n 11 0 rfl rfl rfl ?_
    refine v_gK 12 rfl fl3_46_2.r (al 18 rfl hn) (wk18 dy) (by decide) rfl (r := 35) (wc18_10 dy) ?_
    refine v_iload_n 13 2 rfl rfl rfl ?_
    refine v_iload_n 14 3 rfl rfl rfl ?_
    have c5 := h.1
    have h := h.2
    refine v_iast (N := 1024) 15 rfl (al 35 rfl hn) (wk35 dy) (wn35 dy) (by decide) c1 c5 ?_
    refine v_aload_n 16 0 rfl rfl rfl ?_
    refine v_gK 17 rfl fl3_43_2.r (al 18 rfl hn) (wk18 dy) (by decide) rfl (r := 34) (wc18_9 dy) ?_
    refine v_iload_n 18 2 rfl rfl rfl ?_
    refine v_dup2 19 rfl (by intro h; cases h) (by intro h; cases h) ?_
    refine v_ia (N := 1024) 20 rfl (al 34 rfl hn) (wk34 dy) (wn34 dy) (by decide) c1 (y := g 34 x2.toNat) rfl ?_
    refine v_rng fun w6 => ?_
    have p7 : i3 (g 34 x2.toNat) := rI w6 (q := x2.toNat) (al 34 rfl hn) (wk34 dy) rfl rfl
    refine v_aload_n 21 0 rfl rfl rfl ?_
    refine v_gK 22 rfl fl3_43_2.r (al 18 rfl hn) (wk18 dy) (by decide) rfl (r := 34) (wc18_9 dy) ?_
    refine v_iload_n 23 1 rfl rfl rfl ?_
    have c8 := h.1
    have h := h.2
    refine v_ia (N := 1024) 24 rfl (al 34 rfl hn) (wk34 dy) (wn34 dy) (by decide) c8 (y := g 34 x1.toNat) rfl ?_
    refine v_rng fun w9 => ?_
    have p10 : i3 (g 34 x1.toNat) := rI w9 (q := x1.toNat) (al 34 rfl hn) (wk34 dy) rfl rfl
    refine v_iadd 25 rfl ?_
    refine v_nmI (fun y11 ey11 => ?_)
    have h := h y11 ey11
    have c12 := h.1
    have h := h.2
    refine v_iast (N := 1024) 26 rfl (al 34 rfl hn) (wk34 dy) (wn34 dy) (by decide) c1 c12 ?_
    exact v_ret (v := none) 27 rfl (Nat.zero_le _) (Nat.zero_le _) trivial rfl h
  · have h := h.2 q4
    refine v_iload_n 5 3 rfl rfl rfl ?_
    refine v_aload_n 6 0 rfl rfl rfl ?_
    refine v_gK 7 rfl fl3_46_2.r (al 18 rfl hn) (wk18 dy) (by decide) rfl (r := 35) (wc18_10 dy) ?_
    refine v_iload_n 8 2 rfl rfl rfl ?_
    refine v_ia (N := 1024) 9 rfl (al 35 rfl hn) (wk35 dy) (wn35 dy) (by decide) c1 (y := g 35 x2.toNat) rfl ?_
    refine v_rng fun w13 => ?_
    have p14 : i3 (g 35 x2.toNat) := rI w13 (q := x2.toNat) (al 35 rfl hn) (wk35 dy) rfl rfl
    have c15 := h.1
    have h := h.2
    refine v_icmp_ge 10 rfl (tgt := 26) rfl c15 p14 (fun q16 => ?_) (fun q16 => ?_)
    · have h := h.1 q16
      refine v_aload_n 16 0 rfl rfl rfl ?_
      refine v_gK 17 rfl fl3_43_2.r (al 18 rfl hn) (wk18 dy) (by decide) rfl (r := 34) (wc18_9 dy) ?_
      refine v_iload_n 18 2 rfl rfl rfl ?_
      refine v_dup2 19 rfl (by intro h; cases h) (by intro h; cases h) ?_
      refine v_ia (N := 1024) 20 rfl (al 34 rfl hn) (wk34 dy) (wn34 dy) (by decide) c1 (y := g 34 x2.toNat) rfl ?_
      refine v_rng fun w17 => ?_
      have p18 : i3 (g 34 x2.toNat) := rI w17 (q := x2.toNat) (al 34 rfl hn) (wk34 dy) rfl rfl
      refine v_aload_n 21 0 rfl rfl rfl ?_
      refine v_gK 22 rfl fl3_43_2.r (al 18 rfl hn) (wk18 dy) (by decide) rfl (r := 34) (wc18_9 dy) ?_
      refine v_iload_n 23 1 rfl rfl rfl ?_
      have c19 := h.1
      have h := h.2
      refine v_ia (N := 1024) 24 rfl (al 34 rfl hn) (wk34 dy) (wn34 dy) (by decide) c19 (y := g 34 x1.toNat) rfl ?_
      refine v_rng fun w20 => ?_
      have p21 : i3 (g 34 x1.toNat) := rI w20 (q := x1.toNat) (al 34 rfl hn) (wk34 dy) rfl rfl
      refine v_iadd 25 rfl ?_
      refine v_nmI (fun y22 ey22 => ?_)
      have h := h y22 ey22
      have c23 := h.1
      have h := h.2
      refine v_iast (N := 1024) 26 rfl (al 34 rfl hn) (wk34 dy) (wn34 dy) (by decide) c1 c23 ?_
      exact v_ret (v := none) 27 rfl (Nat.zero_le _) (Nat.zero_le _) trivial rfl h
    · have h := h.2 q16
      refine v_aload_n 11 0 rfl rfl rfl ?_
      refine v_gK 12 rfl fl3_46_2.r (al 18 rfl hn) (wk18 dy) (by decide) rfl (r := 35) (wc18_10 dy) ?_
      refine v_iload_n 13 2 rfl rfl rfl ?_
      refine v_iload_n 14 3 rfl rfl rfl ?_
      refine v_iast (N := 1024) 15 rfl (al 35 rfl hn) (wk35 dy) (wn35 dy) (by decide) c1 c15 ?_
      refine v_aload_n 16 0 rfl rfl rfl ?_
      refine v_gK 17 rfl fl3_43_2.r (al 18 rfl hn) (wk18 dy) (by decide) rfl (r := 34) (wc18_9 dy) ?_
      refine v_iload_n 18 2 rfl rfl rfl ?_
      refine v_dup2 19 rfl (by intro h; cases h) (by intro h; cases h) ?_
      refine v_ia (N := 1024) 20 rfl (al 34 rfl hn) (wk34 dy) (wn34 dy) (by decide) c1 (y := g 34 x2.toNat) rfl ?_
      refine v_rng fun w24 => ?_
      have p25 : i3 (g 34 x2.toNat) := rI w24 (q := x2.toNat) (al 34 rfl hn) (wk34 dy) rfl rfl
      refine v_aload_n 21 0 rfl rfl rfl ?_
      refine v_gK 22 rfl fl3_43_2.r (al 18 rfl hn) (wk18 dy) (by decide) rfl (r := 34) (wc18_9 dy) ?_
      refine v_iload_n 23 1 rfl rfl rfl ?_
      have c26 := h.1
      have h := h.2
      refine v_ia (N := 1024) 24 rfl (al 34 rfl hn) (wk34 dy) (wn34 dy) (by decide) c26 (y := g 34 x1.toNat) rfl ?_
      refine v_rng fun w27 => ?_
      have p28 : i3 (g 34 x1.toNat) := rI w27 (q := x1.toNat) (al 34 rfl hn) (wk34 dy) rfl rfl
      refine v_iadd 25 rfl ?_
      refine v_nmI (fun y29 ey29 => ?_)
      have h := h y29 ey29
      have c30 := h.1
      have h := h.2
      refine v_iast (N := 1024) 26 rfl (al 34 rfl hn) (wk34 dy) (wn34 dy) (by decide) c1 c30 ?_
      exact v_ret (v := none) 27 rfl (Nat.zero_le _) (Nat.zero_le _) trivial rfl h
theorem wX3_extend {d n : Nat} {dy : Nat → Shp} {g : Hp} {P : Pst} {x1 : Int} {x2 : Int} {x3 : Int} (hn : 100 ≤ n) (h : (0 ≤ x2 ∧ x2 < 1024) ∧ (((g 34 x2.toNat) = 0) → (i3 x3) ∧ (0 ≤ x1 ∧ x1 < 1024) ∧ ∀ y11 : Int, y11 = (g 34 x2.toNat) + (g 34 x1.toNat) → (i3 y11) ∧ P none n (W0 dy) (up2 (up2 g 35 x2.toNat x3) 34 x2.toNat y11)) ∧ (((g 34 x2.toNat) ≠ 0) → (i3 x3) ∧ (((g 35 x2.toNat) ≤ x3) → (0 ≤ x1 ∧ x1 < 1024) ∧ ∀ y22 : Int, y22 = (g 34 x2.toNat) + (g 34 x1.toNat) → (i3 y22) ∧ P none n (W0 dy) (up2 g 34 x2.toNat y22)) ∧ ((x3 < (g 35 x2.toNat)) → (0 ≤ x1 ∧ x1 < 1024) ∧ ∀ y29 : Int, y29 = (g 34 x2.toNat) + (g 34 x1.toNat) → (i3 y29) ∧ P none n (W0 dy) (up2 (up2 g 35 x2.toNat x3) 34 x2.toNat y29)))) : Runs miX3_extend d [.ref 18, I_ x1, I_ x2, I_ x3] n (W0 dy) g P := Runs.of rfl rfl deX3_extend (Nat.le_of_ble_eq_true rfl) (bX3_extend_0 hn h)
theorem fl4_37_3 : FL RX4 37 3 13 true .long := ⟨RX4, TX4, 14, "MobileMaker$Plate", rfl, rfl, by decide, kf3, tbG_in (List.mem_append_right _ (List.mem_of_getElem? (i := 573) (by decide +kernel))) rfl, Or.inl rfl, rfl, by decide +kernel, ⟨tyX4, tyX4_ok⟩, nmX4, fun _ => rfl⟩
theorem fl4_25_3 : FL RX4 25 3 10 true .long := ⟨RX4, TX4, 14, "MobileMaker$Plate", rfl, rfl, by decide, kf3, tbG_in (List.mem_append_right _ (List.mem_of_getElem? (i := 570) (by decide +kernel))) rfl, Or.inl rfl, rfl, by decide +kernel, ⟨tyX4, tyX4_ok⟩, nmX4, fun _ => rfl⟩
theorem fl4_31_3 : FL RX4 31 3 11 true .long := ⟨RX4, TX4, 14, "MobileMaker$Plate", rfl, rfl, by decide, kf3, tbG_in (List.mem_append_right _ (List.mem_of_getElem? (i := 571) (by decide +kernel))) rfl, Or.inl rfl, rfl, by decide +kernel, ⟨tyX4, tyX4_ok⟩, nmX4, fun _ => rfl⟩
theorem fl4_34_3 : FL RX4 34 3 12 true .long := ⟨RX4, TX4, 14, "MobileMaker$Plate", rfl, rfl, by decide, kf3, tbG_in (List.mem_append_right _ (List.mem_of_getElem? (i := 572) (by decide +kernel))) rfl, Or.inl rfl, rfl, by decide +kernel, ⟨tyX4, tyX4_ok⟩, nmX4, fun _ => rfl⟩
set_option maxHeartbeats 8000000 in
set_option maxRecDepth 4000 in
theorem bX4_middleAt_0 {d n : Nat} {dy : Nat → Shp} {g : Hp} {P : Pst} {r0 : Nat} {x1 : Int} (hn : 100 ≤ n) (h : (i3 x1) ∧ ((x1 < 0 ∨ 2 < x1) → (Ob n (W0 dy) r0 3) ∧ P (some (L_ (g r0 13))) n (W0 dy) g) ∧ (x1 = 0 → (Ob n (W0 dy) r0 3) ∧ P (some (L_ (g r0 10))) n (W0 dy) g) ∧ (x1 = 1 → (Ob n (W0 dy) r0 3) ∧ P (some (L_ (g r0 11))) n (W0 dy) g) ∧ (x1 = 2 → (Ob n (W0 dy) r0 3) ∧ P (some (L_ (g r0 12))) n (W0 dy) g)) : V miX4_middleAt d 0 [(0, .ref r0), (1, I_ x1)] [] n (W0 dy) g 0 0 P := by
  refine v_iload_n 0 1 rfl rfl rfl ?_
  have c1 := h.1
  have h := h.2
  by_cases q14 : x1 < 0 ∨ 2 < x1
  · have h := h.1 q14
    refine v_tswOut 1 rfl c1 q14 (tgt := 43) rfl ?_
    refine v_aload_n 11 0 rfl rfl rfl ?_
    have c2 := h.1
    have h := h.2
    refine v_gL 12 rfl fl4_37_3.r c2.1 c2.2.1 (by decide) rfl (c2.2.2 13) (x := g r0 13) rfl ?_
    refine v_rng fun w3 => ?_
    have p4 : i6 (g r0 13) := rL w3 (q := 13) c2.1 c2.2.1 rfl rfl
    exact v_ret (v := some (L_ (g r0 13))) 13 rfl (Nat.zero_le _) (Nat.zero_le _) trivial rfl h
  by_cases q14_0 : x1 = 0
  · have h := h.2.1 q14_0
    refine v_tswIn 1 rfl c1 (by omega) (by omega) (off := 27) (tgt := 28) (by rw [q14_0]; rfl) rfl ?_
    refine v_aload_n 2 0 rfl rfl rfl ?_
    have c5 := h.1
    have h := h.2
    refine v_gL 3 rfl fl4_25_3.r c5.1 c5.2.1 (by decide) rfl (c5.2.2 10) (x := g r0 10) rfl ?_
    refine v_rng fun w6 => ?_
    have p7 : i6 (g r0 10) := rL w6 (q := 10) c5.1 c5.2.1 rfl rfl
    exact v_ret (v := some (L_ (g r0 10))) 4 rfl (Nat.zero_le _) (Nat.zero_le _) trivial rfl h
  by_cases q14_1 : x1 = 1
  · have h := h.2.2.1 q14_1
    refine v_tswIn 1 rfl c1 (by omega) (by omega) (off := 32) (tgt := 33) (by rw [q14_1]; rfl) rfl ?_
    refine v_aload_n 5 0 rfl rfl rfl ?_
    have c8 := h.1
    have h := h.2
    refine v_gL 6 rfl fl4_31_3.r c8.1 c8.2.1 (by decide) rfl (c8.2.2 11) (x := g r0 11) rfl ?_
    refine v_rng fun w9 => ?_
    have p10 : i6 (g r0 11) := rL w9 (q := 11) c8.1 c8.2.1 rfl rfl
    exact v_ret (v := some (L_ (g r0 11))) 7 rfl (Nat.zero_le _) (Nat.zero_le _) trivial rfl h
  by_cases q14_2 : x1 = 2
  · have h := h.2.2.2 q14_2
    refine v_tswIn 1 rfl c1 (by omega) (by omega) (off := 37) (tgt := 38) (by rw [q14_2]; rfl) rfl ?_
    refine v_aload_n 8 0 rfl rfl rfl ?_
    have c11 := h.1
    have h := h.2
    refine v_gL 9 rfl fl4_34_3.r c11.1 c11.2.1 (by decide) rfl (c11.2.2 12) (x := g r0 12) rfl ?_
    refine v_rng fun w12 => ?_
    have p13 : i6 (g r0 12) := rL w12 (q := 12) c11.1 c11.2.1 rfl rfl
    exact v_ret (v := some (L_ (g r0 12))) 10 rfl (Nat.zero_le _) (Nat.zero_le _) trivial rfl h
  exfalso; omega
theorem wX4_middleAt {d n : Nat} {dy : Nat → Shp} {g : Hp} {P : Pst} {r0 : Nat} {x1 : Int} (hn : 100 ≤ n) (h : (i3 x1) ∧ ((x1 < 0 ∨ 2 < x1) → (Ob n (W0 dy) r0 3) ∧ P (some (L_ (g r0 13))) n (W0 dy) g) ∧ (x1 = 0 → (Ob n (W0 dy) r0 3) ∧ P (some (L_ (g r0 10))) n (W0 dy) g) ∧ (x1 = 1 → (Ob n (W0 dy) r0 3) ∧ P (some (L_ (g r0 11))) n (W0 dy) g) ∧ (x1 = 2 → (Ob n (W0 dy) r0 3) ∧ P (some (L_ (g r0 12))) n (W0 dy) g)) : Runs miX4_middleAt d [.ref r0, I_ x1] n (W0 dy) g P := Runs.of rfl rfl deX4_middleAt (Nat.le_of_ble_eq_true rfl) (bX4_middleAt_0 hn h)
theorem lm5_22_draw : LkM miX5_draw 22 Lib.Math.min.name Lib.Math.min.code 2 .int := ⟨tbG_in (List.mem_append_right _ (List.mem_of_getElem? (i := 499) (by decide +kernel))) rfl, tbG_in (List.mem_append_right _ (List.mem_of_getElem? (i := 500) (by decide +kernel))) rfl, tbG_in (List.mem_append_right _ (List.mem_of_getElem? (i := 15) (by decide +kernel))) rfl, tbG_in (List.mem_append_right _ (List.mem_of_getElem? (i := 501) (by decide +kernel))) rfl⟩
theorem fl5_18_4 : FL RX5 18 4 2 false .int := ⟨RX5, TX5, 3, "MobileMaker$Ring", rfl, rfl, by decide, kf4, tbG_in (List.mem_append_right _ (List.mem_of_getElem? (i := 61) (by decide +kernel))) rfl, Or.inl rfl, rfl, by decide +kernel, ⟨tyX5, tyX5_ok⟩, nmX5, fun h => by cases h⟩
theorem fl5_9_4 : FL RX5 9 4 0 true (.array .int) := ⟨RX5, TX5, 3, "MobileMaker$Ring", rfl, rfl, by decide, kf4, tbG_in (List.mem_append_right _ (List.mem_of_getElem? (i := 59) (by decide +kernel))) rfl, Or.inl rfl, rfl, by decide +kernel, ⟨tyX5, tyX5_ok⟩, nmX5, fun _ => rfl⟩
theorem fl5_15_4 : FL RX5 15 4 1 true (.array .int) := ⟨RX5, TX5, 3, "MobileMaker$Ring", rfl, rfl, by decide, kf4, tbG_in (List.mem_append_right _ (List.mem_of_getElem? (i := 60) (by decide +kernel))) rfl, Or.inl rfl, rfl, by decide +kernel, ⟨tyX5, tyX5_ok⟩, nmX5, fun _ => rfl⟩
theorem lv5_28_draw_8 : LkV miX5_draw miX9_at 28 1 8 := ⟨⟨⟨tbG_in (List.mem_append_right _ (List.mem_of_getElem? (i := 310) (by decide +kernel))) rfl, tbG_in (List.mem_append_right _ (List.mem_of_getElem? (i := 8) (by decide +kernel))) rfl, tbG_in (List.mem_append_right _ (List.mem_of_getElem? (i := 502) (by decide +kernel))) rfl⟩, ⟨by decide +kernel, by decide +kernel, by decide +kernel⟩, by decide⟩, tbG_in (List.mem_append_right _ (List.mem_of_getElem? (i := 308) (by decide +kernel))) rfl, RX9, TX9, 3, rfl, tbG_in (List.mem_append_right _ (List.mem_of_getElem? (i := 309) (by decide +kernel))) rfl⟩
theorem ls5_34_draw : LkS miX5_draw miX5_isTooFar 34 1 := ⟨⟨⟨tbG_in (List.mem_append_right _ (List.mem_of_getElem? (i := 505) (by decide +kernel))) rfl, tbG_in (List.mem_append_right _ (List.mem_of_getElem? (i := 3) (by decide +kernel))) rfl, tbG_in (List.mem_append_right _ (List.mem_of_getElem? (i := 503) (by decide +kernel))) rfl⟩, ⟨by decide +kernel, by decide +kernel, by decide +kernel⟩, by decide⟩, tbG_in (List.mem_append_right _ (List.mem_of_getElem? (i := 504) (by decide +kernel))) rfl⟩
set_option maxHeartbeats 8000000 in
set_option maxRecDepth 4000 in
theorem bX5_draw_0 {d n : Nat} {dy : Nat → Shp} {g : Hp} {P : Pst} {r1 : Nat} {x2 : Int} (hn : 100 ≤ n) (h : (i3 x2) ∧ V miX5_draw (d + 1) 12 [(0, .ref 6), (1, .ref r1), (2, I_ x2), (3, I_ 0)] [] n (W0 dy) (up2 g 6 2 (min x2 8)) 0 0 P) : V miX5_draw (d + 1) 0 [(0, .ref 6), (1, .ref r1), (2, I_ x2)] [] n (W0 dy) g 0 0 P := by
  refine v_aload_n 0 0 rfl rfl rfl ?_
  refine v_iload_n 1 2 rfl rfl rfl ?_
  refine v_bipush 2 rfl (by decide) ?_
  have c1 := h.1
  have h := h.2
  refine v_mmin (st := [.ref 6]) 3 rfl lm5_22_draw rfl (Nat.zero_le _) (Nat.zero_le _) c1 (by decide) ?_
  refine v_putI 4 rfl fl5_18_4 (al 6 rfl hn) (wk6 dy) (by decide) rfl (wc6_2 dy) (min_i3 c1 (by decide)) ?_
  refine v_iconst 5 rfl ?_
  refine v_istore_n 6 [1, 2, 3, 0] rfl rfl (by decide) rfl ?_
  exact h
set_option maxHeartbeats 8000000 in
set_option maxRecDepth 4000 in
theorem bX5_draw_12 {d n : Nat} {dy : Nat → Shp} {g : Hp} {P : Pst} {r1 : Nat} {x2 : Int} {x3 : Int} (hn : 100 ≤ n) (h : (i3 x3) ∧ (((g 6 2) ≤ x3) → P (some (I_ 1)) n (W0 dy) g) ∧ ((x3 < (g 6 2)) → (Tr n (W0 dy) r1) ∧ Runs miX9_at d [.ref r1, I_ (2 * x3)] n (W0 dy) g (fun v n' S' g' => V miX5_draw (d + 1) 27 [(0, .ref 6), (1, .ref r1), (2, I_ x2), (3, I_ x3)] (v.toList ++ []) n' S' g' 0 0 P))) : V miX5_draw (d + 1) 12 [(0, .ref 6), (1, .ref r1), (2, I_ x2), (3, I_ x3)] [] n (W0 dy) g 0 0 P := by
  refine v_iload_n 7 3 rfl rfl rfl ?_
  refine v_aload_n 8 0 rfl rfl rfl ?_
  refine v_gI 9 rfl fl5_18_4.r (al 6 rfl hn) (wk6 dy) (by decide) rfl (wc6_2 dy) (x := g 6 2) rfl ?_
  refine v_rng fun w1 => ?_
  have p2 : i3 (g 6 2) := rI w1 (q := 2) (al 6 rfl hn) (wk6 dy) rfl rfl
  have c3 := h.1
  have h := h.2
  refine v_icmp_ge 10 rfl (tgt := 82) rfl c3 p2 (fun q4 => ?_) (fun q4 => ?_)
  · have h := h.1 q4
    refine v_iconst 47 rfl ?_
    exact v_ret (v := some (I_ 1)) 48 rfl (Nat.zero_le _) (Nat.zero_le _) (Or.inr rfl) rfl h
  · have h := h.2 q4
    refine v_aload_n 11 1 rfl rfl rfl ?_
    refine v_iconst 12 rfl ?_
    refine v_iload_n 13 3 rfl rfl rfl ?_
    refine v_imul 14 rfl ?_
    have c5 := h.1
    have h := h.2
    refine v_callV (st := []) [I_ (2 * x3)] 15 rfl lv5_28_draw_8 c5.1 c5.2.1 (by decide) rfl (Nat.le_refl _) (Nat.le_refl _) ?_
    exact h
set_option maxHeartbeats 8000000 in
set_option maxRecDepth 4000 in
theorem bX5_draw_27 {d n : Nat} {dy : Nat → Shp} {g : Hp} {P : Pst} {r1 : Nat} {x2 : Int} {x3 : Int} {xs0 : Int} (hn : 100 ≤ n) (h : (Tr n (W0 dy) r1) ∧ Runs miX9_at d [.ref r1, I_ ((2 * x3) + 1)] n (W0 dy) g (fun v n' S' g' => V miX5_draw (d + 1) 38 [(0, .ref 6), (1, .ref r1), (2, I_ x2), (3, I_ x3), (4, L_ xs0)] (v.toList ++ []) n' S' g' 0 0 P)) : V miX5_draw (d + 1) 27 [(0, .ref 6), (1, .ref r1), (2, I_ x2), (3, I_ x3)] [L_ xs0] n (W0 dy) g 0 0 P := by
  refine v_lstore 16 [1, 2, 3, 4, 0] rfl (by decide) rfl ?_
  refine v_aload_n 17 1 rfl rfl rfl ?_
  refine v_iconst 18 rfl ?_
  refine v_iload_n 19 3 rfl rfl rfl ?_
  refine v_imul 20 rfl ?_
  refine v_iconst 21 rfl ?_
  refine v_iadd 22 rfl ?_
  have c1 := h.1
  have h := h.2
  refine v_callV (st := []) [I_ ((2 * x3) + 1)] 23 rfl lv5_28_draw_8 c1.1 c1.2.1 (by decide) rfl (Nat.le_refl _) (Nat.le_refl _) ?_
  exact h
set_option maxHeartbeats 8000000 in
set_option maxRecDepth 4000 in
theorem bX5_draw_38 {d n : Nat} {dy : Nat → Shp} {g : Hp} {P : Pst} {r1 : Nat} {x2 : Int} {x3 : Int} {x4 : Int} {xs0 : Int} (hn : 100 ≤ n) (h : Runs miX5_isTooFar d [L_ x4] n (W0 dy) g (fun v n' S' g' => V miX5_draw (d + 1) 45 [(0, .ref 6), (1, .ref r1), (2, I_ x2), (3, I_ x3), (4, L_ x4), (6, L_ xs0)] (v.toList ++ []) n' S' g' 0 0 P)) : V miX5_draw (d + 1) 38 [(0, .ref 6), (1, .ref r1), (2, I_ x2), (3, I_ x3), (4, L_ x4)] [L_ xs0] n (W0 dy) g 0 0 P := by
  refine v_lstore 24 [1, 2, 3, 4, 5, 0] rfl (by decide) rfl ?_
  refine v_lload 25 4 rfl rfl ?_
  refine v_callS (st := []) [L_ x4] 26 rfl ls5_34_draw rfl (Nat.lt_of_lt_of_le (by decide) hn) (Nat.le_refl _) (Nat.le_refl _) ?_
  exact h
set_option maxHeartbeats 8000000 in
set_option maxRecDepth 4000 in
theorem bX5_draw_45 {d n : Nat} {dy : Nat → Shp} {g : Hp} {P : Pst} {r1 : Nat} {x2 : Int} {x3 : Int} {x4 : Int} {x6 : Int} {xs0 : Int} (hn : 100 ≤ n) (h : (i3 xs0) ∧ ((xs0 ≠ 0) → P (some (I_ 0)) n (W0 dy) g) ∧ ((xs0 = 0) → Runs miX5_isTooFar d [L_ x6] n (W0 dy) g (fun v n' S' g' => V miX5_draw (d + 1) 53 [(0, .ref 6), (1, .ref r1), (2, I_ x2), (3, I_ x3), (4, L_ x4), (6, L_ x6)] (v.toList ++ []) n' S' g' 0 0 P))) : V miX5_draw (d + 1) 45 [(0, .ref 6), (1, .ref r1), (2, I_ x2), (3, I_ x3), (4, L_ x4), (6, L_ x6)] [I_ xs0] n (W0 dy) g 0 0 P := by
  have c1 := h.1
  have h := h.2
  refine v_if_ne 27 rfl (tgt := 56) rfl c1 (fun q2 => ?_) (fun q2 => ?_)
  · have h := h.1 q2
    refine v_iconst 31 rfl ?_
    exact v_ret (v := some (I_ 0)) 32 rfl (Nat.zero_le _) (Nat.zero_le _) (Or.inl rfl) rfl h
  · have h := h.2 q2
    refine v_lload 28 5 rfl rfl ?_
    refine v_callS (st := []) [L_ x6] 29 rfl ls5_34_draw rfl (Nat.lt_of_lt_of_le (by decide) hn) (Nat.le_refl _) (Nat.le_refl _) ?_
    exact h
set_option maxHeartbeats 8000000 in
set_option maxRecDepth 4000 in
theorem bX5_draw_53 {d n : Nat} {dy : Nat → Shp} {g : Hp} {P : Pst} {r1 : Nat} {x2 : Int} {x3 : Int} {x4 : Int} {x6 : Int} {xs0 : Int} (hn : 100 ≤ n) (h : (i3 xs0) ∧ ((xs0 = 0) → (0 ≤ x3 ∧ x3 < 8) ∧ (i3 x4) ∧ (i3 x6) ∧ V miX5_draw (d + 1) 12 [(0, .ref 6), (1, .ref r1), (2, I_ x2), (3, I_ (x3 + 1))] [] n (W0 dy) (up2 (up2 g 7 x3.toNat x4) 8 x3.toNat x6) 0 0 P) ∧ ((xs0 ≠ 0) → P (some (I_ 0)) n (W0 dy) g)) : V miX5_draw (d + 1) 53 [(0, .ref 6), (1, .ref r1), (2, I_ x2), (3, I_ x3), (4, L_ x4), (6, L_ x6)] [I_ xs0] n (W0 dy) g 0 0 P := by
  have c1 := h.1
  have h := h.2
  refine v_if_eq 30 rfl (tgt := 58) rfl c1 (fun q2 => ?_) (fun q2 => ?_)
  · have h := h.1 q2
    refine v_aload_n 33 0 rfl rfl rfl ?_
    refine v_gK 34 rfl fl5_9_4.r (al 6 rfl hn) (wk6 dy) (by decide) rfl (r := 7) (wc6_0 dy) ?_
    refine v_iload_n 35 3 rfl rfl rfl ?_
    refine v_lload 36 4 rfl rfl ?_
    refine v_l2i 37 rfl ?_
    have c3 := h.1
    have h := h.2
    have c4 := h.1
    have h := h.2
    refine v_iast (N := 8) 38 rfl (al 7 rfl hn) (wk7 dy) (wn7 dy) (by decide) c3 c4 ?_
    refine v_aload_n 39 0 rfl rfl rfl ?_
    refine v_gK 40 rfl fl5_15_4.r (al 6 rfl hn) (wk6 dy) (by decide) rfl (r := 8) (wc6_1 dy) ?_
    refine v_iload_n 41 3 rfl rfl rfl ?_
    refine v_lload 42 5 rfl rfl ?_
    refine v_l2i 43 rfl ?_
    have c5 := h.1
    have h := h.2
    refine v_iast (N := 8) 44 rfl (al 8 rfl hn) (wk8 dy) (wn8 dy) (by decide) c3 c5 ?_
    refine v_iinc 45 3 [1, 2, 3, 0, 4, 5] rfl rfl (by decide) rfl ?_
    refine v_goto 46 rfl (tgt := 12) rfl ?_
    refine v_loc [0, 1, 2, 3] rfl ?_
    exact h
  · have h := h.2 q2
    refine v_iconst 31 rfl ?_
    exact v_ret (v := some (I_ 0)) 32 rfl (Nat.zero_le _) (Nat.zero_le _) (Or.inl rfl) rfl h
theorem wX5_draw {d n : Nat} {dy : Nat → Shp} {g : Hp} {P : Pst} {r1 : Nat} {x2 : Int} (hn : 100 ≤ n) (h : (i3 x2) ∧ V miX5_draw (d + 1) 12 [(0, .ref 6), (1, .ref r1), (2, I_ x2), (3, I_ 0)] [] n (W0 dy) (up2 g 6 2 (min x2 8)) 0 0 P) : Runs miX5_draw (d + 1) [.ref 6, .ref r1, I_ x2] n (W0 dy) g P := Runs.of rfl rfl deX5_draw (Nat.le_of_ble_eq_true rfl) (bX5_draw_0 hn h)
set_option maxHeartbeats 8000000 in
set_option maxRecDepth 4000 in
theorem bX5_isTooFar_0 {d n : Nat} {dy : Nat → Shp} {g : Hp} {P : Pst} {x0 : Int} (hn : 100 ≤ n) (h : (i6 x0) ∧ ((x0 < ((-1000))) → P (some (I_ 1)) n (W0 dy) g) ∧ ((((-1000)) ≤ x0) → ((x0 ≤ 1000) → P (some (I_ 0)) n (W0 dy) g) ∧ ((1000 < x0) → P (some (I_ 1)) n (W0 dy) g))) : V miX5_isTooFar d 0 [(0, L_ x0)] [] n (W0 dy) g 0 0 P := by
  refine v_lload_n 0 0 rfl rfl rfl ?_
  refine v_ldc2 (v := (-1000)) 1 rfl (tbG_in (List.mem_append_right _ (List.mem_of_getElem? (i := 506) (by decide +kernel))) rfl) ?_
  have c1 := h.1
  have h := h.2
  refine v_lif_lt 2 rfl rfl (tgt := 16) rfl c1 (by decide) (fun q2 => ?_) (fun q2 => ?_)
  · have h := h.1 q2
    refine v_iconst 8 rfl ?_
    refine v_goto 9 rfl (tgt := 21) rfl ?_
    exact v_ret (v := some (I_ 1)) 11 rfl (Nat.zero_le _) (Nat.zero_le _) (Or.inr rfl) rfl h
  · have h := h.2 q2
    refine v_lload_n 4 0 rfl rfl rfl ?_
    refine v_ldc2 (v := 1000) 5 rfl (tbG_in (List.mem_append_right _ (List.mem_of_getElem? (i := 507) (by decide +kernel))) rfl) ?_
    refine v_lif_le 6 rfl rfl (tgt := 20) rfl c1 (by decide) (fun q3 => ?_) (fun q3 => ?_)
    · have h := h.1 q3
      refine v_iconst 10 rfl ?_
      exact v_ret (v := some (I_ 0)) 11 rfl (Nat.zero_le _) (Nat.zero_le _) (Or.inl rfl) rfl h
    · have h := h.2 q3
      refine v_iconst 8 rfl ?_
      refine v_goto 9 rfl (tgt := 21) rfl ?_
      exact v_ret (v := some (I_ 1)) 11 rfl (Nat.zero_le _) (Nat.zero_le _) (Or.inr rfl) rfl h
theorem wX5_isTooFar {d n : Nat} {dy : Nat → Shp} {g : Hp} {P : Pst} {x0 : Int} (hn : 100 ≤ n) (h : (i6 x0) ∧ ((x0 < ((-1000))) → P (some (I_ 1)) n (W0 dy) g) ∧ ((((-1000)) ≤ x0) → ((x0 ≤ 1000) → P (some (I_ 0)) n (W0 dy) g) ∧ ((1000 < x0) → P (some (I_ 1)) n (W0 dy) g))) : Runs miX5_isTooFar d [L_ x0] n (W0 dy) g P := Runs.of rfl rfl deX5_isTooFar (Nat.le_of_ble_eq_true rfl) (bX5_isTooFar_0 hn h)
set_option maxHeartbeats 8000000 in
set_option maxRecDepth 4000 in
theorem bX5_next_0 {d n : Nat} {dy : Nat → Shp} {g : Hp} {P : Pst} {x1 : Int} (hn : 100 ≤ n) (h : (i3 (x1 + 1)) ∧ (((g 6 2) ≤ (x1 + 1)) → P (some (I_ 0)) n (W0 dy) g) ∧ (((x1 + 1) < (g 6 2)) → P (some (I_ (x1 + 1))) n (W0 dy) g)) : V miX5_next d 0 [(0, .ref 6), (1, I_ x1)] [] n (W0 dy) g 0 0 P := by
  refine v_iload_n 0 1 rfl rfl rfl ?_
  refine v_iconst 1 rfl ?_
  refine v_iadd 2 rfl ?_
  refine v_aload_n 3 0 rfl rfl rfl ?_
  refine v_gI 4 rfl fl5_18_4.r (al 6 rfl hn) (wk6 dy) (by decide) rfl (wc6_2 dy) (x := g 6 2) rfl ?_
  refine v_rng fun w1 => ?_
  have p2 : i3 (g 6 2) := rI w1 (q := 2) (al 6 rfl hn) (wk6 dy) rfl rfl
  have c3 := h.1
  have h := h.2
  refine v_icmp_ge 5 rfl (tgt := 16) rfl c3 p2 (fun q4 => ?_) (fun q4 => ?_)
  · have h := h.1 q4
    refine v_iconst 10 rfl ?_
    exact v_ret (v := some (I_ 0)) 11 rfl (Nat.zero_le _) (Nat.zero_le _) trivial rfl h
  · have h := h.2 q4
    refine v_iload_n 6 1 rfl rfl rfl ?_
    refine v_iconst 7 rfl ?_
    refine v_iadd 8 rfl ?_
    refine v_goto 9 rfl (tgt := 17) rfl ?_
    exact v_ret (v := some (I_ (x1 + 1))) 11 rfl (Nat.zero_le _) (Nat.zero_le _) trivial rfl h
theorem wX5_next {d n : Nat} {dy : Nat → Shp} {g : Hp} {P : Pst} {x1 : Int} (hn : 100 ≤ n) (h : (i3 (x1 + 1)) ∧ (((g 6 2) ≤ (x1 + 1)) → P (some (I_ 0)) n (W0 dy) g) ∧ (((x1 + 1) < (g 6 2)) → P (some (I_ (x1 + 1))) n (W0 dy) g)) : Runs miX5_next d [.ref 6, I_ x1] n (W0 dy) g P := Runs.of rfl rfl deX5_next (Nat.le_of_ble_eq_true rfl) (bX5_next_0 hn h)
theorem lv5_42_touchesItself_4 : LkV miX5_touchesItself miX5_foldsBackAfter 42 1 4 := ⟨⟨⟨tbG_in (List.mem_append_right _ (List.mem_of_getElem? (i := 515) (by decide +kernel))) rfl, tbG_in (List.mem_append_right _ (List.mem_of_getElem? (i := 3) (by decide +kernel))) rfl, tbG_in (List.mem_append_right _ (List.mem_of_getElem? (i := 512) (by decide +kernel))) rfl⟩, ⟨by decide +kernel, by decide +kernel, by decide +kernel⟩, by decide⟩, tbG_in (List.mem_append_right _ (List.mem_of_getElem? (i := 514) (by decide +kernel))) rfl, RX5, TX5, 3, rfl, tbG_in (List.mem_append_left _ (List.mem_of_getElem? (i := 6) (by decide +kernel))) rfl⟩
theorem lv5_46_touchesItself_4 : LkV miX5_touchesItself miX5_next 46 1 4 := ⟨⟨⟨tbG_in (List.mem_append_right _ (List.mem_of_getElem? (i := 519) (by decide +kernel))) rfl, tbG_in (List.mem_append_right _ (List.mem_of_getElem? (i := 3) (by decide +kernel))) rfl, tbG_in (List.mem_append_right _ (List.mem_of_getElem? (i := 516) (by decide +kernel))) rfl⟩, ⟨by decide +kernel, by decide +kernel, by decide +kernel⟩, by decide⟩, tbG_in (List.mem_append_right _ (List.mem_of_getElem? (i := 518) (by decide +kernel))) rfl, RX5, TX5, 3, rfl, tbG_in (List.mem_append_left _ (List.mem_of_getElem? (i := 7) (by decide +kernel))) rfl⟩
theorem lv5_50_touchesItself_4 : LkV miX5_touchesItself miX5_doSidesMeet 50 2 4 := ⟨⟨⟨tbG_in (List.mem_append_right _ (List.mem_of_getElem? (i := 530) (by decide +kernel))) rfl, tbG_in (List.mem_append_right _ (List.mem_of_getElem? (i := 3) (by decide +kernel))) rfl, tbG_in (List.mem_append_right _ (List.mem_of_getElem? (i := 527) (by decide +kernel))) rfl⟩, ⟨by decide +kernel, by decide +kernel, by decide +kernel⟩, by decide⟩, tbG_in (List.mem_append_right _ (List.mem_of_getElem? (i := 529) (by decide +kernel))) rfl, RX5, TX5, 3, rfl, tbG_in (List.mem_append_left _ (List.mem_of_getElem? (i := 9) (by decide +kernel))) rfl⟩
set_option maxHeartbeats 8000000 in
set_option maxRecDepth 4000 in
theorem bX5_touchesItself_0 {d n : Nat} {dy : Nat → Shp} {g : Hp} {P : Pst}  (hn : 100 ≤ n) (h : V miX5_touchesItself (d + 1) 2 [(0, .ref 6), (1, I_ 0)] [] n (W0 dy) g 0 0 P) : V miX5_touchesItself (d + 1) 0 [(0, .ref 6)] [] n (W0 dy) g 0 0 P := by
  refine v_iconst 0 rfl ?_
  refine v_istore_n 1 [1, 0] rfl rfl (by decide) rfl ?_
  exact h
set_option maxHeartbeats 8000000 in
set_option maxRecDepth 4000 in
theorem bX5_touchesItself_2 {d n : Nat} {dy : Nat → Shp} {g : Hp} {P : Pst} {x1 : Int} (hn : 100 ≤ n) (h : (i3 x1) ∧ (((g 6 2) ≤ x1) → P (some (I_ 0)) n (W0 dy) g) ∧ ((x1 < (g 6 2)) → Runs miX5_foldsBackAfter d [.ref 6, I_ x1] n (W0 dy) g (fun v n' S' g' => V miX5_touchesItself (d + 1) 15 [(0, .ref 6), (1, I_ x1)] (v.toList ++ []) n' S' g' 0 0 P))) : V miX5_touchesItself (d + 1) 2 [(0, .ref 6), (1, I_ x1)] [] n (W0 dy) g 0 0 P := by
  refine v_iload_n 2 1 rfl rfl rfl ?_
  refine v_aload_n 3 0 rfl rfl rfl ?_
  refine v_gI 4 rfl fl5_18_4.r (al 6 rfl hn) (wk6 dy) (by decide) rfl (wc6_2 dy) (x := g 6 2) rfl ?_
  refine v_rng fun w1 => ?_
  have p2 : i3 (g 6 2) := rI w1 (q := 2) (al 6 rfl hn) (wk6 dy) rfl rfl
  have c3 := h.1
  have h := h.2
  refine v_icmp_ge 5 rfl (tgt := 64) rfl c3 p2 (fun q4 => ?_) (fun q4 => ?_)
  · have h := h.1 q4
    refine v_iconst 36 rfl ?_
    exact v_ret (v := some (I_ 0)) 37 rfl (Nat.zero_le _) (Nat.zero_le _) (Or.inl rfl) rfl h
  · have h := h.2 q4
    refine v_aload_n 6 0 rfl rfl rfl ?_
    refine v_iload_n 7 1 rfl rfl rfl ?_
    refine v_callV (st := []) [I_ x1] 8 rfl lv5_42_touchesItself_4 (al 6 rfl hn) (wk6 dy) (by decide) rfl (Nat.le_refl _) (Nat.le_refl _) ?_
    exact h
set_option maxHeartbeats 8000000 in
set_option maxRecDepth 4000 in
theorem bX5_touchesItself_15 {d n : Nat} {dy : Nat → Shp} {g : Hp} {P : Pst} {x1 : Int} {xs0 : Int} (hn : 100 ≤ n) (h : (i3 xs0) ∧ ((xs0 = 0) → V miX5_touchesItself (d + 1) 24 [(0, .ref 6), (1, I_ x1), (2, I_ (x1 + 2))] [] n (W0 dy) g 0 0 P) ∧ ((xs0 ≠ 0) → P (some (I_ 1)) n (W0 dy) g)) : V miX5_touchesItself (d + 1) 15 [(0, .ref 6), (1, I_ x1)] [I_ xs0] n (W0 dy) g 0 0 P := by
  have c1 := h.1
  have h := h.2
  refine v_if_eq 9 rfl (tgt := 20) rfl c1 (fun q2 => ?_) (fun q2 => ?_)
  · have h := h.1 q2
    refine v_iload_n 12 1 rfl rfl rfl ?_
    refine v_iconst 13 rfl ?_
    refine v_iadd 14 rfl ?_
    refine v_istore_n 15 [1, 2, 0] rfl rfl (by decide) rfl ?_
    exact h
  · have h := h.2 q2
    refine v_iconst 10 rfl ?_
    exact v_ret (v := some (I_ 1)) 11 rfl (Nat.zero_le _) (Nat.zero_le _) (Or.inr rfl) rfl h
set_option maxHeartbeats 8000000 in
set_option maxRecDepth 4000 in
theorem bX5_touchesItself_24 {d n : Nat} {dy : Nat → Shp} {g : Hp} {P : Pst} {x1 : Int} {x2 : Int} (hn : 100 ≤ n) (h : (i3 x2) ∧ (((g 6 2) ≤ x2) → V miX5_touchesItself (d + 1) 2 [(0, .ref 6), (1, I_ (x1 + 1))] [] n (W0 dy) g 0 0 P) ∧ ((x2 < (g 6 2)) → Runs miX5_next d [.ref 6, I_ x2] n (W0 dy) g (fun v n' S' g' => V miX5_touchesItself (d + 1) 37 [(0, .ref 6), (1, I_ x1), (2, I_ x2)] (v.toList ++ []) n' S' g' 0 0 P))) : V miX5_touchesItself (d + 1) 24 [(0, .ref 6), (1, I_ x1), (2, I_ x2)] [] n (W0 dy) g 0 0 P := by
  refine v_iload_n 16 2 rfl rfl rfl ?_
  refine v_aload_n 17 0 rfl rfl rfl ?_
  refine v_gI 18 rfl fl5_18_4.r (al 6 rfl hn) (wk6 dy) (by decide) rfl (wc6_2 dy) (x := g 6 2) rfl ?_
  refine v_rng fun w1 => ?_
  have p2 : i3 (g 6 2) := rI w1 (q := 2) (al 6 rfl hn) (wk6 dy) rfl rfl
  have c3 := h.1
  have h := h.2
  refine v_icmp_ge 19 rfl (tgt := 58) rfl c3 p2 (fun q4 => ?_) (fun q4 => ?_)
  · have h := h.1 q4
    refine v_iinc 34 1 [1, 0, 2] rfl rfl (by decide) rfl ?_
    refine v_goto 35 rfl (tgt := 2) rfl ?_
    refine v_loc [0, 1] rfl ?_
    exact h
  · have h := h.2 q4
    refine v_aload_n 20 0 rfl rfl rfl ?_
    refine v_iload_n 21 2 rfl rfl rfl ?_
    refine v_callV (st := []) [I_ x2] 22 rfl lv5_46_touchesItself_4 (al 6 rfl hn) (wk6 dy) (by decide) rfl (Nat.le_refl _) (Nat.le_refl _) ?_
    exact h
set_option maxHeartbeats 8000000 in
set_option maxRecDepth 4000 in
theorem bX5_touchesItself_37 {d n : Nat} {dy : Nat → Shp} {g : Hp} {P : Pst} {x1 : Int} {x2 : Int} {xs0 : Int} (hn : 100 ≤ n) (h : (i3 xs0) ∧ (i3 x1) ∧ ((xs0 = x1) → V miX5_touchesItself (d + 1) 24 [(0, .ref 6), (1, I_ x1), (2, I_ (x2 + 1))] [] n (W0 dy) g 0 0 P) ∧ ((xs0 ≠ x1) → Runs miX5_doSidesMeet d [.ref 6, I_ x1, I_ x2] n (W0 dy) g (fun v n' S' g' => V miX5_touchesItself (d + 1) 47 [(0, .ref 6), (1, I_ x1), (2, I_ x2)] (v.toList ++ []) n' S' g' 0 0 P))) : V miX5_touchesItself (d + 1) 37 [(0, .ref 6), (1, I_ x1), (2, I_ x2)] [I_ xs0] n (W0 dy) g 0 0 P := by
  refine v_iload_n 23 1 rfl rfl rfl ?_
  have c1 := h.1
  have h := h.2
  have c2 := h.1
  have h := h.2
  refine v_icmp_eq 24 rfl (tgt := 52) rfl c1 c2 (fun q3 => ?_) (fun q3 => ?_)
  · have h := h.1 q3
    refine v_iinc 32 2 [1, 2, 0] rfl rfl (by decide) rfl ?_
    refine v_goto 33 rfl (tgt := 24) rfl ?_
    exact h
  · have h := h.2 q3
    refine v_aload_n 25 0 rfl rfl rfl ?_
    refine v_iload_n 26 1 rfl rfl rfl ?_
    refine v_iload_n 27 2 rfl rfl rfl ?_
    refine v_callV (st := []) [I_ x1, I_ x2] 28 rfl lv5_50_touchesItself_4 (al 6 rfl hn) (wk6 dy) (by decide) rfl (Nat.le_refl _) (Nat.le_refl _) ?_
    exact h
set_option maxHeartbeats 8000000 in
set_option maxRecDepth 4000 in
theorem bX5_touchesItself_47 {d n : Nat} {dy : Nat → Shp} {g : Hp} {P : Pst} {x1 : Int} {x2 : Int} {xs0 : Int} (hn : 100 ≤ n) (h : (i3 xs0) ∧ ((xs0 = 0) → V miX5_touchesItself (d + 1) 24 [(0, .ref 6), (1, I_ x1), (2, I_ (x2 + 1))] [] n (W0 dy) g 0 0 P) ∧ ((xs0 ≠ 0) → P (some (I_ 1)) n (W0 dy) g)) : V miX5_touchesItself (d + 1) 47 [(0, .ref 6), (1, I_ x1), (2, I_ x2)] [I_ xs0] n (W0 dy) g 0 0 P := by
  have c1 := h.1
  have h := h.2
  refine v_if_eq 29 rfl (tgt := 52) rfl c1 (fun q2 => ?_) (fun q2 => ?_)
  · have h := h.1 q2
    refine v_iinc 32 2 [1, 2, 0] rfl rfl (by decide) rfl ?_
    refine v_goto 33 rfl (tgt := 24) rfl ?_
    exact h
  · have h := h.2 q2
    refine v_iconst 30 rfl ?_
    exact v_ret (v := some (I_ 1)) 31 rfl (Nat.zero_le _) (Nat.zero_le _) (Or.inr rfl) rfl h
theorem wX5_touchesItself {d n : Nat} {dy : Nat → Shp} {g : Hp} {P : Pst}  (hn : 100 ≤ n) (h : V miX5_touchesItself (d + 1) 2 [(0, .ref 6), (1, I_ 0)] [] n (W0 dy) g 0 0 P) : Runs miX5_touchesItself (d + 1) [.ref 6] n (W0 dy) g P := Runs.of rfl rfl deX5_touchesItself (Nat.le_of_ble_eq_true rfl) (bX5_touchesItself_0 hn h)
theorem lv5_46_foldsBackAfter_4 : LkV miX5_foldsBackAfter miX5_next 46 1 4 := ⟨⟨⟨tbG_in (List.mem_append_right _ (List.mem_of_getElem? (i := 519) (by decide +kernel))) rfl, tbG_in (List.mem_append_right _ (List.mem_of_getElem? (i := 3) (by decide +kernel))) rfl, tbG_in (List.mem_append_right _ (List.mem_of_getElem? (i := 516) (by decide +kernel))) rfl⟩, ⟨by decide +kernel, by decide +kernel, by decide +kernel⟩, by decide⟩, tbG_in (List.mem_append_right _ (List.mem_of_getElem? (i := 518) (by decide +kernel))) rfl, RX5, TX5, 3, rfl, tbG_in (List.mem_append_left _ (List.mem_of_getElem? (i := 7) (by decide +kernel))) rfl⟩
theorem lv5_54_foldsBackAfter_4 : LkV miX5_foldsBackAfter miX5_turn 54 3 4 := ⟨⟨⟨tbG_in (List.mem_append_right _ (List.mem_of_getElem? (i := 523) (by decide +kernel))) rfl, tbG_in (List.mem_append_right _ (List.mem_of_getElem? (i := 3) (by decide +kernel))) rfl, tbG_in (List.mem_append_right _ (List.mem_of_getElem? (i := 520) (by decide +kernel))) rfl⟩, ⟨by decide +kernel, by decide +kernel, by decide +kernel⟩, by decide⟩, tbG_in (List.mem_append_right _ (List.mem_of_getElem? (i := 522) (by decide +kernel))) rfl, RX5, TX5, 3, rfl, tbG_in (List.mem_append_left _ (List.mem_of_getElem? (i := 8) (by decide +kernel))) rfl⟩
set_option maxHeartbeats 8000000 in
set_option maxRecDepth 4000 in
theorem bX5_foldsBackAfter_0 {d n : Nat} {dy : Nat → Shp} {g : Hp} {P : Pst} {x1 : Int} (hn : 100 ≤ n) (h : Runs miX5_next d [.ref 6, I_ x1] n (W0 dy) g (fun v n' S' g' => V miX5_foldsBackAfter (d + 1) 5 [(0, .ref 6), (1, I_ x1)] (v.toList ++ []) n' S' g' 0 0 P)) : V miX5_foldsBackAfter (d + 1) 0 [(0, .ref 6), (1, I_ x1)] [] n (W0 dy) g 0 0 P := by
  refine v_aload_n 0 0 rfl rfl rfl ?_
  refine v_iload_n 1 1 rfl rfl rfl ?_
  refine v_callV (st := []) [I_ x1] 2 rfl lv5_46_foldsBackAfter_4 (al 6 rfl hn) (wk6 dy) (by decide) rfl (Nat.le_refl _) (Nat.le_refl _) ?_
  exact h
set_option maxHeartbeats 8000000 in
set_option maxRecDepth 4000 in
theorem bX5_foldsBackAfter_5 {d n : Nat} {dy : Nat → Shp} {g : Hp} {P : Pst} {x1 : Int} {xs0 : Int} (hn : 100 ≤ n) (h : Runs miX5_next d [.ref 6, I_ xs0] n (W0 dy) g (fun v n' S' g' => V miX5_foldsBackAfter (d + 1) 11 [(0, .ref 6), (1, I_ x1), (2, I_ xs0)] (v.toList ++ []) n' S' g' 0 0 P)) : V miX5_foldsBackAfter (d + 1) 5 [(0, .ref 6), (1, I_ x1)] [I_ xs0] n (W0 dy) g 0 0 P := by
  refine v_istore_n 3 [1, 2, 0] rfl rfl (by decide) rfl ?_
  refine v_aload_n 4 0 rfl rfl rfl ?_
  refine v_iload_n 5 2 rfl rfl rfl ?_
  refine v_callV (st := []) [I_ xs0] 6 rfl lv5_46_foldsBackAfter_4 (al 6 rfl hn) (wk6 dy) (by decide) rfl (Nat.le_refl _) (Nat.le_refl _) ?_
  exact h
set_option maxHeartbeats 8000000 in
set_option maxRecDepth 4000 in
theorem bX5_foldsBackAfter_11 {d n : Nat} {dy : Nat → Shp} {g : Hp} {P : Pst} {x1 : Int} {x2 : Int} {xs0 : Int} (hn : 100 ≤ n) (h : (0 ≤ x2 ∧ x2 < 8) ∧ (0 ≤ x1 ∧ x1 < 8) ∧ (0 ≤ xs0 ∧ xs0 < 8) ∧ ∀ y20 : Int, y20 = (((g 7 x2.toNat) - (g 7 x1.toNat)) * ((g 7 xs0.toNat) - (g 7 x2.toNat))) + (((g 8 x2.toNat) - (g 8 x1.toNat)) * ((g 8 xs0.toNat) - (g 8 x2.toNat))) → Runs miX5_turn d [.ref 6, I_ x1, I_ x2, I_ xs0] n (W0 dy) g (fun v n' S' g' => V miX5_foldsBackAfter (d + 1) 76 [(0, .ref 6), (1, I_ x1), (2, I_ x2), (3, I_ xs0), (4, I_ y20)] (v.toList ++ []) n' S' g' 0 0 P)) : V miX5_foldsBackAfter (d + 1) 11 [(0, .ref 6), (1, I_ x1), (2, I_ x2)] [I_ xs0] n (W0 dy) g 0 0 P := by
  refine v_istore_n 7 [1, 2, 3, 0] rfl rfl (by decide) rfl ?_
  refine v_aload_n 8 0 rfl rfl rfl ?_
  refine v_gK 9 rfl fl5_9_4.r (al 6 rfl hn) (wk6 dy) (by decide) rfl (r := 7) (wc6_0 dy) ?_
  refine v_iload_n 10 2 rfl rfl rfl ?_
  have c1 := h.1
  have h := h.2
  refine v_ia (N := 8) 11 rfl (al 7 rfl hn) (wk7 dy) (wn7 dy) (by decide) c1 (y := g 7 x2.toNat) rfl ?_
  refine v_rng fun w2 => ?_
  have p3 : i3 (g 7 x2.toNat) := rI w2 (q := x2.toNat) (al 7 rfl hn) (wk7 dy) rfl rfl
  refine v_aload_n 12 0 rfl rfl rfl ?_
  refine v_gK 13 rfl fl5_9_4.r (al 6 rfl hn) (wk6 dy) (by decide) rfl (r := 7) (wc6_0 dy) ?_
  refine v_iload_n 14 1 rfl rfl rfl ?_
  have c4 := h.1
  have h := h.2
  refine v_ia (N := 8) 15 rfl (al 7 rfl hn) (wk7 dy) (wn7 dy) (by decide) c4 (y := g 7 x1.toNat) rfl ?_
  refine v_rng fun w5 => ?_
  have p6 : i3 (g 7 x1.toNat) := rI w5 (q := x1.toNat) (al 7 rfl hn) (wk7 dy) rfl rfl
  refine v_isub 16 rfl ?_
  refine v_aload_n 17 0 rfl rfl rfl ?_
  refine v_gK 18 rfl fl5_9_4.r (al 6 rfl hn) (wk6 dy) (by decide) rfl (r := 7) (wc6_0 dy) ?_
  refine v_iload_n 19 3 rfl rfl rfl ?_
  have c7 := h.1
  have h := h.2
  refine v_ia (N := 8) 20 rfl (al 7 rfl hn) (wk7 dy) (wn7 dy) (by decide) c7 (y := g 7 xs0.toNat) rfl ?_
  refine v_rng fun w8 => ?_
  have p9 : i3 (g 7 xs0.toNat) := rI w8 (q := xs0.toNat) (al 7 rfl hn) (wk7 dy) rfl rfl
  refine v_aload_n 21 0 rfl rfl rfl ?_
  refine v_gK 22 rfl fl5_9_4.r (al 6 rfl hn) (wk6 dy) (by decide) rfl (r := 7) (wc6_0 dy) ?_
  refine v_iload_n 23 2 rfl rfl rfl ?_
  refine v_ia (N := 8) 24 rfl (al 7 rfl hn) (wk7 dy) (wn7 dy) (by decide) c1 (y := g 7 x2.toNat) rfl ?_
  refine v_rng fun w10 => ?_
  have p11 : i3 (g 7 x2.toNat) := rI w10 (q := x2.toNat) (al 7 rfl hn) (wk7 dy) rfl rfl
  refine v_isub 25 rfl ?_
  refine v_imul 26 rfl ?_
  refine v_aload_n 27 0 rfl rfl rfl ?_
  refine v_gK 28 rfl fl5_15_4.r (al 6 rfl hn) (wk6 dy) (by decide) rfl (r := 8) (wc6_1 dy) ?_
  refine v_iload_n 29 2 rfl rfl rfl ?_
  refine v_ia (N := 8) 30 rfl (al 8 rfl hn) (wk8 dy) (wn8 dy) (by decide) c1 (y := g 8 x2.toNat) rfl ?_
  refine v_rng fun w12 => ?_
  have p13 : i3 (g 8 x2.toNat) := rI w12 (q := x2.toNat) (al 8 rfl hn) (wk8 dy) rfl rfl
  refine v_aload_n 31 0 rfl rfl rfl ?_
  refine v_gK 32 rfl fl5_15_4.r (al 6 rfl hn) (wk6 dy) (by decide) rfl (r := 8) (wc6_1 dy) ?_
  refine v_iload_n 33 1 rfl rfl rfl ?_
  refine v_ia (N := 8) 34 rfl (al 8 rfl hn) (wk8 dy) (wn8 dy) (by decide) c4 (y := g 8 x1.toNat) rfl ?_
  refine v_rng fun w14 => ?_
  have p15 : i3 (g 8 x1.toNat) := rI w14 (q := x1.toNat) (al 8 rfl hn) (wk8 dy) rfl rfl
  refine v_isub 35 rfl ?_
  refine v_aload_n 36 0 rfl rfl rfl ?_
  refine v_gK 37 rfl fl5_15_4.r (al 6 rfl hn) (wk6 dy) (by decide) rfl (r := 8) (wc6_1 dy) ?_
  refine v_iload_n 38 3 rfl rfl rfl ?_
  refine v_ia (N := 8) 39 rfl (al 8 rfl hn) (wk8 dy) (wn8 dy) (by decide) c7 (y := g 8 xs0.toNat) rfl ?_
  refine v_rng fun w16 => ?_
  have p17 : i3 (g 8 xs0.toNat) := rI w16 (q := xs0.toNat) (al 8 rfl hn) (wk8 dy) rfl rfl
  refine v_aload_n 40 0 rfl rfl rfl ?_
  refine v_gK 41 rfl fl5_15_4.r (al 6 rfl hn) (wk6 dy) (by decide) rfl (r := 8) (wc6_1 dy) ?_
  refine v_iload_n 42 2 rfl rfl rfl ?_
  refine v_ia (N := 8) 43 rfl (al 8 rfl hn) (wk8 dy) (wn8 dy) (by decide) c1 (y := g 8 x2.toNat) rfl ?_
  refine v_rng fun w18 => ?_
  have p19 : i3 (g 8 x2.toNat) := rI w18 (q := x2.toNat) (al 8 rfl hn) (wk8 dy) rfl rfl
  refine v_isub 44 rfl ?_
  refine v_imul 45 rfl ?_
  refine v_iadd 46 rfl ?_
  refine v_nmI (fun y20 ey20 => ?_)
  have h := h y20 ey20
  refine v_istore 47 [1, 2, 3, 4, 0] rfl (by decide) rfl ?_
  refine v_aload_n 48 0 rfl rfl rfl ?_
  refine v_iload_n 49 1 rfl rfl rfl ?_
  refine v_iload_n 50 2 rfl rfl rfl ?_
  refine v_iload_n 51 3 rfl rfl rfl ?_
  refine v_callV (st := []) [I_ x1, I_ x2, I_ xs0] 52 rfl lv5_54_foldsBackAfter_4 (al 6 rfl hn) (wk6 dy) (by decide) rfl (Nat.le_refl _) (Nat.le_refl _) ?_
  exact h
set_option maxHeartbeats 8000000 in
set_option maxRecDepth 4000 in
theorem bX5_foldsBackAfter_76 {d n : Nat} {dy : Nat → Shp} {g : Hp} {P : Pst} {x1 : Int} {x2 : Int} {x3 : Int} {x4 : Int} {xs0 : Int} (hn : 100 ≤ n) (h : (i3 xs0) ∧ ((xs0 ≠ 0) → P (some (I_ 0)) n (W0 dy) g) ∧ ((xs0 = 0) → (i3 x4) ∧ ((0 < x4) → P (some (I_ 0)) n (W0 dy) g) ∧ ((x4 ≤ 0) → P (some (I_ 1)) n (W0 dy) g))) : V miX5_foldsBackAfter (d + 1) 76 [(0, .ref 6), (1, I_ x1), (2, I_ x2), (3, I_ x3), (4, I_ x4)] [I_ xs0] n (W0 dy) g 0 0 P := by
  have c1 := h.1
  have h := h.2
  refine v_if_ne 53 rfl (tgt := 88) rfl c1 (fun q2 => ?_) (fun q2 => ?_)
  · have h := h.1 q2
    refine v_iconst 58 rfl ?_
    exact v_ret (v := some (I_ 0)) 59 rfl (Nat.zero_le _) (Nat.zero_le _) (Or.inl rfl) rfl h
  · have h := h.2 q2
    refine v_iload 54 4 rfl rfl ?_
    have c3 := h.1
    have h := h.2
    refine v_if_gt 55 rfl (tgt := 88) rfl c3 (fun q4 => ?_) (fun q4 => ?_)
    · have h := h.1 q4
      refine v_iconst 58 rfl ?_
      exact v_ret (v := some (I_ 0)) 59 rfl (Nat.zero_le _) (Nat.zero_le _) (Or.inl rfl) rfl h
    · have h := h.2 q4
      refine v_iconst 56 rfl ?_
      refine v_goto 57 rfl (tgt := 89) rfl ?_
      exact v_ret (v := some (I_ 1)) 59 rfl (Nat.zero_le _) (Nat.zero_le _) (Or.inr rfl) rfl h
theorem wX5_foldsBackAfter {d n : Nat} {dy : Nat → Shp} {g : Hp} {P : Pst} {x1 : Int} (hn : 100 ≤ n) (h : Runs miX5_next d [.ref 6, I_ x1] n (W0 dy) g (fun v n' S' g' => V miX5_foldsBackAfter (d + 1) 5 [(0, .ref 6), (1, I_ x1)] (v.toList ++ []) n' S' g' 0 0 P)) : Runs miX5_foldsBackAfter (d + 1) [.ref 6, I_ x1] n (W0 dy) g P := Runs.of rfl rfl deX5_foldsBackAfter (Nat.le_of_ble_eq_true rfl) (bX5_foldsBackAfter_0 hn h)
theorem lv5_46_doSidesMeet_4 : LkV miX5_doSidesMeet miX5_next 46 1 4 := ⟨⟨⟨tbG_in (List.mem_append_right _ (List.mem_of_getElem? (i := 519) (by decide +kernel))) rfl, tbG_in (List.mem_append_right _ (List.mem_of_getElem? (i := 3) (by decide +kernel))) rfl, tbG_in (List.mem_append_right _ (List.mem_of_getElem? (i := 516) (by decide +kernel))) rfl⟩, ⟨by decide +kernel, by decide +kernel, by decide +kernel⟩, by decide⟩, tbG_in (List.mem_append_right _ (List.mem_of_getElem? (i := 518) (by decide +kernel))) rfl, RX5, TX5, 3, rfl, tbG_in (List.mem_append_left _ (List.mem_of_getElem? (i := 7) (by decide +kernel))) rfl⟩
theorem lv5_54_doSidesMeet_4 : LkV miX5_doSidesMeet miX5_turn 54 3 4 := ⟨⟨⟨tbG_in (List.mem_append_right _ (List.mem_of_getElem? (i := 523) (by decide +kernel))) rfl, tbG_in (List.mem_append_right _ (List.mem_of_getElem? (i := 3) (by decide +kernel))) rfl, tbG_in (List.mem_append_right _ (List.mem_of_getElem? (i := 520) (by decide +kernel))) rfl⟩, ⟨by decide +kernel, by decide +kernel, by decide +kernel⟩, by decide⟩, tbG_in (List.mem_append_right _ (List.mem_of_getElem? (i := 522) (by decide +kernel))) rfl, RX5, TX5, 3, rfl, tbG_in (List.mem_append_left _ (List.mem_of_getElem? (i := 8) (by decide +kernel))) rfl⟩
theorem lv5_58_doSidesMeet_4 : LkV miX5_doSidesMeet miX5_isInBox 58 3 4 := ⟨⟨⟨tbG_in (List.mem_append_right _ (List.mem_of_getElem? (i := 534) (by decide +kernel))) rfl, tbG_in (List.mem_append_right _ (List.mem_of_getElem? (i := 3) (by decide +kernel))) rfl, tbG_in (List.mem_append_right _ (List.mem_of_getElem? (i := 531) (by decide +kernel))) rfl⟩, ⟨by decide +kernel, by decide +kernel, by decide +kernel⟩, by decide⟩, tbG_in (List.mem_append_right _ (List.mem_of_getElem? (i := 533) (by decide +kernel))) rfl, RX5, TX5, 3, rfl, tbG_in (List.mem_append_left _ (List.mem_of_getElem? (i := 10) (by decide +kernel))) rfl⟩
set_option maxHeartbeats 8000000 in
set_option maxRecDepth 4000 in
theorem bX5_doSidesMeet_0 {d n : Nat} {dy : Nat → Shp} {g : Hp} {P : Pst} {x1 : Int} {x2 : Int} (hn : 100 ≤ n) (h : Runs miX5_next d [.ref 6, I_ x1] n (W0 dy) g (fun v n' S' g' => V miX5_doSidesMeet (d + 1) 7 [(0, .ref 6), (1, I_ x1), (2, I_ x2), (3, I_ x1)] (v.toList ++ []) n' S' g' 0 0 P)) : V miX5_doSidesMeet (d + 1) 0 [(0, .ref 6), (1, I_ x1), (2, I_ x2)] [] n (W0 dy) g 0 0 P := by
  refine v_iload_n 0 1 rfl rfl rfl ?_
  refine v_istore_n 1 [1, 2, 3, 0] rfl rfl (by decide) rfl ?_
  refine v_aload_n 2 0 rfl rfl rfl ?_
  refine v_iload_n 3 1 rfl rfl rfl ?_
  refine v_callV (st := []) [I_ x1] 4 rfl lv5_46_doSidesMeet_4 (al 6 rfl hn) (wk6 dy) (by decide) rfl (Nat.le_refl _) (Nat.le_refl _) ?_
  exact h
set_option maxHeartbeats 8000000 in
set_option maxRecDepth 4000 in
theorem bX5_doSidesMeet_7 {d n : Nat} {dy : Nat → Shp} {g : Hp} {P : Pst} {x1 : Int} {x2 : Int} {x3 : Int} {xs0 : Int} (hn : 100 ≤ n) (h : Runs miX5_next d [.ref 6, I_ x2] n (W0 dy) g (fun v n' S' g' => V miX5_doSidesMeet (d + 1) 17 [(0, .ref 6), (1, I_ x1), (2, I_ x2), (3, I_ x3), (4, I_ xs0), (5, I_ x2)] (v.toList ++ []) n' S' g' 0 0 P)) : V miX5_doSidesMeet (d + 1) 7 [(0, .ref 6), (1, I_ x1), (2, I_ x2), (3, I_ x3)] [I_ xs0] n (W0 dy) g 0 0 P := by
  refine v_istore 5 [1, 2, 3, 4, 0] rfl (by decide) rfl ?_
  refine v_iload_n 6 2 rfl rfl rfl ?_
  refine v_istore 7 [1, 2, 3, 4, 5, 0] rfl (by decide) rfl ?_
  refine v_aload_n 8 0 rfl rfl rfl ?_
  refine v_iload_n 9 2 rfl rfl rfl ?_
  refine v_callV (st := []) [I_ x2] 10 rfl lv5_46_doSidesMeet_4 (al 6 rfl hn) (wk6 dy) (by decide) rfl (Nat.le_refl _) (Nat.le_refl _) ?_
  exact h
set_option maxHeartbeats 8000000 in
set_option maxRecDepth 4000 in
theorem bX5_doSidesMeet_17 {d n : Nat} {dy : Nat → Shp} {g : Hp} {P : Pst} {x1 : Int} {x2 : Int} {x3 : Int} {x4 : Int} {x5 : Int} {xs0 : Int} (hn : 100 ≤ n) (h : Runs miX5_turn d [.ref 6, I_ x3, I_ x4, I_ x5] n (W0 dy) g (fun v n' S' g' => V miX5_doSidesMeet (d + 1) 28 [(0, .ref 6), (1, I_ x1), (2, I_ x2), (3, I_ x3), (4, I_ x4), (5, I_ x5), (6, I_ xs0)] (v.toList ++ []) n' S' g' 0 0 P)) : V miX5_doSidesMeet (d + 1) 17 [(0, .ref 6), (1, I_ x1), (2, I_ x2), (3, I_ x3), (4, I_ x4), (5, I_ x5)] [I_ xs0] n (W0 dy) g 0 0 P := by
  refine v_istore 11 [1, 2, 3, 4, 5, 6, 0] rfl (by decide) rfl ?_
  refine v_aload_n 12 0 rfl rfl rfl ?_
  refine v_iload_n 13 3 rfl rfl rfl ?_
  refine v_iload 14 4 rfl rfl ?_
  refine v_iload 15 5 rfl rfl ?_
  refine v_callV (st := []) [I_ x3, I_ x4, I_ x5] 16 rfl lv5_54_doSidesMeet_4 (al 6 rfl hn) (wk6 dy) (by decide) rfl (Nat.le_refl _) (Nat.le_refl _) ?_
  exact h
set_option maxHeartbeats 8000000 in
set_option maxRecDepth 4000 in
theorem bX5_doSidesMeet_28 {d n : Nat} {dy : Nat → Shp} {g : Hp} {P : Pst} {x1 : Int} {x2 : Int} {x3 : Int} {x4 : Int} {x5 : Int} {x6 : Int} {xs0 : Int} (hn : 100 ≤ n) (h : Runs miX5_turn d [.ref 6, I_ x3, I_ x4, I_ x6] n (W0 dy) g (fun v n' S' g' => V miX5_doSidesMeet (d + 1) 39 [(0, .ref 6), (1, I_ x1), (2, I_ x2), (3, I_ x3), (4, I_ x4), (5, I_ x5), (6, I_ x6), (7, I_ xs0)] (v.toList ++ []) n' S' g' 0 0 P)) : V miX5_doSidesMeet (d + 1) 28 [(0, .ref 6), (1, I_ x1), (2, I_ x2), (3, I_ x3), (4, I_ x4), (5, I_ x5), (6, I_ x6)] [I_ xs0] n (W0 dy) g 0 0 P := by
  refine v_istore 17 [1, 2, 3, 4, 5, 6, 7, 0] rfl (by decide) rfl ?_
  refine v_aload_n 18 0 rfl rfl rfl ?_
  refine v_iload_n 19 3 rfl rfl rfl ?_
  refine v_iload 20 4 rfl rfl ?_
  refine v_iload 21 6 rfl rfl ?_
  refine v_callV (st := []) [I_ x3, I_ x4, I_ x6] 22 rfl lv5_54_doSidesMeet_4 (al 6 rfl hn) (wk6 dy) (by decide) rfl (Nat.le_refl _) (Nat.le_refl _) ?_
  exact h
set_option maxHeartbeats 8000000 in
set_option maxRecDepth 4000 in
theorem bX5_doSidesMeet_39 {d n : Nat} {dy : Nat → Shp} {g : Hp} {P : Pst} {x1 : Int} {x2 : Int} {x3 : Int} {x4 : Int} {x5 : Int} {x6 : Int} {x7 : Int} {xs0 : Int} (hn : 100 ≤ n) (h : Runs miX5_turn d [.ref 6, I_ x5, I_ x6, I_ x3] n (W0 dy) g (fun v n' S' g' => V miX5_doSidesMeet (d + 1) 50 [(0, .ref 6), (1, I_ x1), (2, I_ x2), (3, I_ x3), (4, I_ x4), (5, I_ x5), (6, I_ x6), (7, I_ x7), (8, I_ xs0)] (v.toList ++ []) n' S' g' 0 0 P)) : V miX5_doSidesMeet (d + 1) 39 [(0, .ref 6), (1, I_ x1), (2, I_ x2), (3, I_ x3), (4, I_ x4), (5, I_ x5), (6, I_ x6), (7, I_ x7)] [I_ xs0] n (W0 dy) g 0 0 P := by
  refine v_istore 23 [1, 2, 3, 4, 5, 6, 7, 8, 0] rfl (by decide) rfl ?_
  refine v_aload_n 24 0 rfl rfl rfl ?_
  refine v_iload 25 5 rfl rfl ?_
  refine v_iload 26 6 rfl rfl ?_
  refine v_iload_n 27 3 rfl rfl rfl ?_
  refine v_callV (st := []) [I_ x5, I_ x6, I_ x3] 28 rfl lv5_54_doSidesMeet_4 (al 6 rfl hn) (wk6 dy) (by decide) rfl (Nat.le_refl _) (Nat.le_refl _) ?_
  exact h
set_option maxHeartbeats 8000000 in
set_option maxRecDepth 4000 in
theorem bX5_doSidesMeet_50 {d n : Nat} {dy : Nat → Shp} {g : Hp} {P : Pst} {x1 : Int} {x2 : Int} {x3 : Int} {x4 : Int} {x5 : Int} {x6 : Int} {x7 : Int} {x8 : Int} {xs0 : Int} (hn : 100 ≤ n) (h : Runs miX5_turn d [.ref 6, I_ x5, I_ x6, I_ x4] n (W0 dy) g (fun v n' S' g' => V miX5_doSidesMeet (d + 1) 62 [(0, .ref 6), (1, I_ x1), (2, I_ x2), (3, I_ x3), (4, I_ x4), (5, I_ x5), (6, I_ x6), (7, I_ x7), (8, I_ x8), (9, I_ xs0)] (v.toList ++ []) n' S' g' 0 0 P)) : V miX5_doSidesMeet (d + 1) 50 [(0, .ref 6), (1, I_ x1), (2, I_ x2), (3, I_ x3), (4, I_ x4), (5, I_ x5), (6, I_ x6), (7, I_ x7), (8, I_ x8)] [I_ xs0] n (W0 dy) g 0 0 P := by
  refine v_istore 29 [1, 2, 3, 4, 5, 6, 7, 8, 9, 0] rfl (by decide) rfl ?_
  refine v_aload_n 30 0 rfl rfl rfl ?_
  refine v_iload 31 5 rfl rfl ?_
  refine v_iload 32 6 rfl rfl ?_
  refine v_iload 33 4 rfl rfl ?_
  refine v_callV (st := []) [I_ x5, I_ x6, I_ x4] 34 rfl lv5_54_doSidesMeet_4 (al 6 rfl hn) (wk6 dy) (by decide) rfl (Nat.le_refl _) (Nat.le_refl _) ?_
  exact h
set_option maxHeartbeats 8000000 in
set_option maxRecDepth 4000 in
theorem bX5_doSidesMeet_62 {d n : Nat} {dy : Nat → Shp} {g : Hp} {P : Pst} {x1 : Int} {x2 : Int} {x3 : Int} {x4 : Int} {x5 : Int} {x6 : Int} {x7 : Int} {x8 : Int} {x9 : Int} {xs0 : Int} (hn : 100 ≤ n) (h : (i3 (x7 * x8)) ∧ ((0 ≤ (x7 * x8)) → (i3 x7) ∧ ((x7 ≠ 0) → (i3 x8) ∧ ((x8 ≠ 0) → (i3 x9) ∧ ((x9 ≠ 0) → (i3 xs0) ∧ ((xs0 ≠ 0) → P (some (I_ 0)) n (W0 dy) g) ∧ ((xs0 = 0) → Runs miX5_isInBox d [.ref 6, I_ x5, I_ x6, I_ x4] n (W0 dy) g (fun v n' S' g' => V miX5_doSidesMeet (d + 1) 148 [(0, .ref 6), (1, I_ x1), (2, I_ x2), (3, I_ x3), (4, I_ x4), (5, I_ x5), (6, I_ x6), (7, I_ x7), (8, I_ x8), (9, I_ x9), (10, I_ xs0)] (v.toList ++ []) n' S' g' 0 0 P))) ∧ ((x9 = 0) → Runs miX5_isInBox d [.ref 6, I_ x5, I_ x6, I_ x3] n (W0 dy) g (fun v n' S' g' => V miX5_doSidesMeet (d + 1) 130 [(0, .ref 6), (1, I_ x1), (2, I_ x2), (3, I_ x3), (4, I_ x4), (5, I_ x5), (6, I_ x6), (7, I_ x7), (8, I_ x8), (9, I_ x9), (10, I_ xs0)] (v.toList ++ []) n' S' g' 0 0 P))) ∧ ((x8 = 0) → Runs miX5_isInBox d [.ref 6, I_ x3, I_ x4, I_ x6] n (W0 dy) g (fun v n' S' g' => V miX5_doSidesMeet (d + 1) 113 [(0, .ref 6), (1, I_ x1), (2, I_ x2), (3, I_ x3), (4, I_ x4), (5, I_ x5), (6, I_ x6), (7, I_ x7), (8, I_ x8), (9, I_ x9), (10, I_ xs0)] (v.toList ++ []) n' S' g' 0 0 P))) ∧ ((x7 = 0) → Runs miX5_isInBox d [.ref 6, I_ x3, I_ x4, I_ x5] n (W0 dy) g (fun v n' S' g' => V miX5_doSidesMeet (d + 1) 96 [(0, .ref 6), (1, I_ x1), (2, I_ x2), (3, I_ x3), (4, I_ x4), (5, I_ x5), (6, I_ x6), (7, I_ x7), (8, I_ x8), (9, I_ x9), (10, I_ xs0)] (v.toList ++ []) n' S' g' 0 0 P))) ∧ (((x7 * x8) < 0) → (i3 (x9 * xs0)) ∧ ((0 ≤ (x9 * xs0)) → (i3 x7) ∧ ((x7 ≠ 0) → (i3 x8) ∧ ((x8 ≠ 0) → (i3 x9) ∧ ((x9 ≠ 0) → (i3 xs0) ∧ ((xs0 ≠ 0) → P (some (I_ 0)) n (W0 dy) g) ∧ ((xs0 = 0) → Runs miX5_isInBox d [.ref 6, I_ x5, I_ x6, I_ x4] n (W0 dy) g (fun v n' S' g' => V miX5_doSidesMeet (d + 1) 148 [(0, .ref 6), (1, I_ x1), (2, I_ x2), (3, I_ x3), (4, I_ x4), (5, I_ x5), (6, I_ x6), (7, I_ x7), (8, I_ x8), (9, I_ x9), (10, I_ xs0)] (v.toList ++ []) n' S' g' 0 0 P))) ∧ ((x9 = 0) → Runs miX5_isInBox d [.ref 6, I_ x5, I_ x6, I_ x3] n (W0 dy) g (fun v n' S' g' => V miX5_doSidesMeet (d + 1) 130 [(0, .ref 6), (1, I_ x1), (2, I_ x2), (3, I_ x3), (4, I_ x4), (5, I_ x5), (6, I_ x6), (7, I_ x7), (8, I_ x8), (9, I_ x9), (10, I_ xs0)] (v.toList ++ []) n' S' g' 0 0 P))) ∧ ((x8 = 0) → Runs miX5_isInBox d [.ref 6, I_ x3, I_ x4, I_ x6] n (W0 dy) g (fun v n' S' g' => V miX5_doSidesMeet (d + 1) 113 [(0, .ref 6), (1, I_ x1), (2, I_ x2), (3, I_ x3), (4, I_ x4), (5, I_ x5), (6, I_ x6), (7, I_ x7), (8, I_ x8), (9, I_ x9), (10, I_ xs0)] (v.toList ++ []) n' S' g' 0 0 P))) ∧ ((x7 = 0) → Runs miX5_isInBox d [.ref 6, I_ x3, I_ x4, I_ x5] n (W0 dy) g (fun v n' S' g' => V miX5_doSidesMeet (d + 1) 96 [(0, .ref 6), (1, I_ x1), (2, I_ x2), (3, I_ x3), (4, I_ x4), (5, I_ x5), (6, I_ x6), (7, I_ x7), (8, I_ x8), (9, I_ x9), (10, I_ xs0)] (v.toList ++ []) n' S' g' 0 0 P))) ∧ (((x9 * xs0) < 0) → P (some (I_ 1)) n (W0 dy) g))) : V miX5_doSidesMeet (d + 1) 62 [(0, .ref 6), (1, I_ x1), (2, I_ x2), (3, I_ x3), (4, I_ x4), (5, I_ x5), (6, I_ x6), (7, I_ x7), (8, I_ x8), (9, I_ x9)] [I_ xs0] n (W0 dy) g 0 0 P := by
  refine v_istore 35 [1, 2, 3, 4, 5, 6, 7, 8, 9, 10, 0] rfl (by decide) rfl ?_
  refine v_iload 36 7 rfl rfl ?_
  refine v_iload 37 8 rfl rfl ?_
  refine v_imul 38 rfl ?_
  have c1 := h.1
  have h := h.2
  refine v_if_ge 39 rfl (tgt := 82) rfl c1 (fun q2 => ?_) (fun q2 => ?_)
  · have h := h.1 q2
    refine v_iload 46 7 rfl rfl ?_
    have c3 := h.1
    have h := h.2
    refine v_if_ne 47 rfl (tgt := 99) rfl c3 (fun q4 => ?_) (fun q4 => ?_)
    · have h := h.1 q4
      refine v_iload 54 8 rfl rfl ?_
      have c5 := h.1
      have h := h.2
      refine v_if_ne 55 rfl (tgt := 116) rfl c5 (fun q6 => ?_) (fun q6 => ?_)
      · have h := h.1 q6
        refine v_iload 62 9 rfl rfl ?_
        have c7 := h.1
        have h := h.2
        refine v_if_ne 63 rfl (tgt := 133) rfl c7 (fun q8 => ?_) (fun q8 => ?_)
        · have h := h.1 q8
          refine v_iload 70 10 rfl rfl ?_
          have c9 := h.1
          have h := h.2
          refine v_if_ne 71 rfl (tgt := 155) rfl c9 (fun q10 => ?_) (fun q10 => ?_)
          · have h := h.1 q10
            refine v_iconst 80 rfl ?_
            exact v_ret (v := some (I_ 0)) 81 rfl (Nat.zero_le _) (Nat.zero_le _) (Or.inl rfl) rfl h
          · have h := h.2 q10
            refine v_aload_n 72 0 rfl rfl rfl ?_
            refine v_iload 73 5 rfl rfl ?_
            refine v_iload 74 6 rfl rfl ?_
            refine v_iload 75 4 rfl rfl ?_
            refine v_callV (st := []) [I_ x5, I_ x6, I_ x4] 76 rfl lv5_58_doSidesMeet_4 (al 6 rfl hn) (wk6 dy) (by decide) rfl (Nat.le_refl _) (Nat.le_refl _) ?_
            exact h
        · have h := h.2 q8
          refine v_aload_n 64 0 rfl rfl rfl ?_
          refine v_iload 65 5 rfl rfl ?_
          refine v_iload 66 6 rfl rfl ?_
          refine v_iload_n 67 3 rfl rfl rfl ?_
          refine v_callV (st := []) [I_ x5, I_ x6, I_ x3] 68 rfl lv5_58_doSidesMeet_4 (al 6 rfl hn) (wk6 dy) (by decide) rfl (Nat.le_refl _) (Nat.le_refl _) ?_
          exact h
      · have h := h.2 q6
        refine v_aload_n 56 0 rfl rfl rfl ?_
        refine v_iload_n 57 3 rfl rfl rfl ?_
        refine v_iload 58 4 rfl rfl ?_
        refine v_iload 59 6 rfl rfl ?_
        refine v_callV (st := []) [I_ x3, I_ x4, I_ x6] 60 rfl lv5_58_doSidesMeet_4 (al 6 rfl hn) (wk6 dy) (by decide) rfl (Nat.le_refl _) (Nat.le_refl _) ?_
        exact h
    · have h := h.2 q4
      refine v_aload_n 48 0 rfl rfl rfl ?_
      refine v_iload_n 49 3 rfl rfl rfl ?_
      refine v_iload 50 4 rfl rfl ?_
      refine v_iload 51 5 rfl rfl ?_
      refine v_callV (st := []) [I_ x3, I_ x4, I_ x5] 52 rfl lv5_58_doSidesMeet_4 (al 6 rfl hn) (wk6 dy) (by decide) rfl (Nat.le_refl _) (Nat.le_refl _) ?_
      exact h
  · have h := h.2 q2
    refine v_iload 40 9 rfl rfl ?_
    refine v_iload 41 10 rfl rfl ?_
    refine v_imul 42 rfl ?_
    have c11 := h.1
    have h := h.2
    refine v_if_ge 43 rfl (tgt := 82) rfl c11 (fun q12 => ?_) (fun q12 => ?_)
    · have h := h.1 q12
      refine v_iload 46 7 rfl rfl ?_
      have c13 := h.1
      have h := h.2
      refine v_if_ne 47 rfl (tgt := 99) rfl c13 (fun q14 => ?_) (fun q14 => ?_)
      · have h := h.1 q14
        refine v_iload 54 8 rfl rfl ?_
        have c15 := h.1
        have h := h.2
        refine v_if_ne 55 rfl (tgt := 116) rfl c15 (fun q16 => ?_) (fun q16 => ?_)
        · have h := h.1 q16
          refine v_iload 62 9 rfl rfl ?_
          have c17 := h.1
          have h := h.2
          refine v_if_ne 63 rfl (tgt := 133) rfl c17 (fun q18 => ?_) (fun q18 => ?_)
          · have h := h.1 q18
            refine v_iload 70 10 rfl rfl ?_
            have c19 := h.1
            have h := h.2
            refine v_if_ne 71 rfl (tgt := 155) rfl c19 (fun q20 => ?_) (fun q20 => ?_)
            · have h := h.1 q20
              refine v_iconst 80 rfl ?_
              exact v_ret (v := some (I_ 0)) 81 rfl (Nat.zero_le _) (Nat.zero_le _) (Or.inl rfl) rfl h
            · have h := h.2 q20
              refine v_aload_n 72 0 rfl rfl rfl ?_
              refine v_iload 73 5 rfl rfl ?_
              refine v_iload 74 6 rfl rfl ?_
              refine v_iload 75 4 rfl rfl ?_
              refine v_callV (st := []) [I_ x5, I_ x6, I_ x4] 76 rfl lv5_58_doSidesMeet_4 (al 6 rfl hn) (wk6 dy) (by decide) rfl (Nat.le_refl _) (Nat.le_refl _) ?_
              exact h
          · have h := h.2 q18
            refine v_aload_n 64 0 rfl rfl rfl ?_
            refine v_iload 65 5 rfl rfl ?_
            refine v_iload 66 6 rfl rfl ?_
            refine v_iload_n 67 3 rfl rfl rfl ?_
            refine v_callV (st := []) [I_ x5, I_ x6, I_ x3] 68 rfl lv5_58_doSidesMeet_4 (al 6 rfl hn) (wk6 dy) (by decide) rfl (Nat.le_refl _) (Nat.le_refl _) ?_
            exact h
        · have h := h.2 q16
          refine v_aload_n 56 0 rfl rfl rfl ?_
          refine v_iload_n 57 3 rfl rfl rfl ?_
          refine v_iload 58 4 rfl rfl ?_
          refine v_iload 59 6 rfl rfl ?_
          refine v_callV (st := []) [I_ x3, I_ x4, I_ x6] 60 rfl lv5_58_doSidesMeet_4 (al 6 rfl hn) (wk6 dy) (by decide) rfl (Nat.le_refl _) (Nat.le_refl _) ?_
          exact h
      · have h := h.2 q14
        refine v_aload_n 48 0 rfl rfl rfl ?_
        refine v_iload_n 49 3 rfl rfl rfl ?_
        refine v_iload 50 4 rfl rfl ?_
        refine v_iload 51 5 rfl rfl ?_
        refine v_callV (st := []) [I_ x3, I_ x4, I_ x5] 52 rfl lv5_58_doSidesMeet_4 (al 6 rfl hn) (wk6 dy) (by decide) rfl (Nat.le_refl _) (Nat.le_refl _) ?_
        exact h
    · have h := h.2 q12
      refine v_iconst 44 rfl ?_
      exact v_ret (v := some (I_ 1)) 45 rfl (Nat.zero_le _) (Nat.zero_le _) (Or.inr rfl) rfl h
set_option maxHeartbeats 8000000 in
set_option maxRecDepth 4000 in
theorem bX5_doSidesMeet_96 {d n : Nat} {dy : Nat → Shp} {g : Hp} {P : Pst} {x1 : Int} {x2 : Int} {x3 : Int} {x4 : Int} {x5 : Int} {x6 : Int} {x7 : Int} {x8 : Int} {x9 : Int} {x10 : Int} {xs0 : Int} (hn : 100 ≤ n) (h : (i3 xs0) ∧ ((xs0 ≠ 0) → P (some (I_ 1)) n (W0 dy) g) ∧ ((xs0 = 0) → (i3 x8) ∧ ((x8 ≠ 0) → (i3 x9) ∧ ((x9 ≠ 0) → (i3 x10) ∧ ((x10 ≠ 0) → P (some (I_ 0)) n (W0 dy) g) ∧ ((x10 = 0) → Runs miX5_isInBox d [.ref 6, I_ x5, I_ x6, I_ x4] n (W0 dy) g (fun v n' S' g' => V miX5_doSidesMeet (d + 1) 148 [(0, .ref 6), (1, I_ x1), (2, I_ x2), (3, I_ x3), (4, I_ x4), (5, I_ x5), (6, I_ x6), (7, I_ x7), (8, I_ x8), (9, I_ x9), (10, I_ x10)] (v.toList ++ []) n' S' g' 0 0 P))) ∧ ((x9 = 0) → Runs miX5_isInBox d [.ref 6, I_ x5, I_ x6, I_ x3] n (W0 dy) g (fun v n' S' g' => V miX5_doSidesMeet (d + 1) 130 [(0, .ref 6), (1, I_ x1), (2, I_ x2), (3, I_ x3), (4, I_ x4), (5, I_ x5), (6, I_ x6), (7, I_ x7), (8, I_ x8), (9, I_ x9), (10, I_ x10)] (v.toList ++ []) n' S' g' 0 0 P))) ∧ ((x8 = 0) → Runs miX5_isInBox d [.ref 6, I_ x3, I_ x4, I_ x6] n (W0 dy) g (fun v n' S' g' => V miX5_doSidesMeet (d + 1) 113 [(0, .ref 6), (1, I_ x1), (2, I_ x2), (3, I_ x3), (4, I_ x4), (5, I_ x5), (6, I_ x6), (7, I_ x7), (8, I_ x8), (9, I_ x9), (10, I_ x10)] (v.toList ++ []) n' S' g' 0 0 P)))) : V miX5_doSidesMeet (d + 1) 96 [(0, .ref 6), (1, I_ x1), (2, I_ x2), (3, I_ x3), (4, I_ x4), (5, I_ x5), (6, I_ x6), (7, I_ x7), (8, I_ x8), (9, I_ x9), (10, I_ x10)] [I_ xs0] n (W0 dy) g 0 0 P := by
  have c1 := h.1
  have h := h.2
  refine v_if_ne 53 rfl (tgt := 151) rfl c1 (fun q2 => ?_) (fun q2 => ?_)
  · have h := h.1 q2
    refine v_iconst 78 rfl ?_
    refine v_goto 79 rfl (tgt := 156) rfl ?_
    exact v_ret (v := some (I_ 1)) 81 rfl (Nat.zero_le _) (Nat.zero_le _) (Or.inr rfl) rfl h
  · have h := h.2 q2
    refine v_iload 54 8 rfl rfl ?_
    have c3 := h.1
    have h := h.2
    refine v_if_ne 55 rfl (tgt := 116) rfl c3 (fun q4 => ?_) (fun q4 => ?_)
    · have h := h.1 q4
      refine v_iload 62 9 rfl rfl ?_
      have c5 := h.1
      have h := h.2
      refine v_if_ne 63 rfl (tgt := 133) rfl c5 (fun q6 => ?_) (fun q6 => ?_)
      · have h := h.1 q6
        refine v_iload 70 10 rfl rfl ?_
        have c7 := h.1
        have h := h.2
        refine v_if_ne 71 rfl (tgt := 155) rfl c7 (fun q8 => ?_) (fun q8 => ?_)
        · have h := h.1 q8
          refine v_iconst 80 rfl ?_
          exact v_ret (v := some (I_ 0)) 81 rfl (Nat.zero_le _) (Nat.zero_le _) (Or.inl rfl) rfl h
        · have h := h.2 q8
          refine v_aload_n 72 0 rfl rfl rfl ?_
          refine v_iload 73 5 rfl rfl ?_
          refine v_iload 74 6 rfl rfl ?_
          refine v_iload 75 4 rfl rfl ?_
          refine v_callV (st := []) [I_ x5, I_ x6, I_ x4] 76 rfl lv5_58_doSidesMeet_4 (al 6 rfl hn) (wk6 dy) (by decide) rfl (Nat.le_refl _) (Nat.le_refl _) ?_
          exact h
      · have h := h.2 q6
        refine v_aload_n 64 0 rfl rfl rfl ?_
        refine v_iload 65 5 rfl rfl ?_
        refine v_iload 66 6 rfl rfl ?_
        refine v_iload_n 67 3 rfl rfl rfl ?_
        refine v_callV (st := []) [I_ x5, I_ x6, I_ x3] 68 rfl lv5_58_doSidesMeet_4 (al 6 rfl hn) (wk6 dy) (by decide) rfl (Nat.le_refl _) (Nat.le_refl _) ?_
        exact h
    · have h := h.2 q4
      refine v_aload_n 56 0 rfl rfl rfl ?_
      refine v_iload_n 57 3 rfl rfl rfl ?_
      refine v_iload 58 4 rfl rfl ?_
      refine v_iload 59 6 rfl rfl ?_
      refine v_callV (st := []) [I_ x3, I_ x4, I_ x6] 60 rfl lv5_58_doSidesMeet_4 (al 6 rfl hn) (wk6 dy) (by decide) rfl (Nat.le_refl _) (Nat.le_refl _) ?_
      exact h
set_option maxHeartbeats 8000000 in
set_option maxRecDepth 4000 in
theorem bX5_doSidesMeet_113 {d n : Nat} {dy : Nat → Shp} {g : Hp} {P : Pst} {x1 : Int} {x2 : Int} {x3 : Int} {x4 : Int} {x5 : Int} {x6 : Int} {x7 : Int} {x8 : Int} {x9 : Int} {x10 : Int} {xs0 : Int} (hn : 100 ≤ n) (h : (i3 xs0) ∧ ((xs0 ≠ 0) → P (some (I_ 1)) n (W0 dy) g) ∧ ((xs0 = 0) → (i3 x9) ∧ ((x9 ≠ 0) → (i3 x10) ∧ ((x10 ≠ 0) → P (some (I_ 0)) n (W0 dy) g) ∧ ((x10 = 0) → Runs miX5_isInBox d [.ref 6, I_ x5, I_ x6, I_ x4] n (W0 dy) g (fun v n' S' g' => V miX5_doSidesMeet (d + 1) 148 [(0, .ref 6), (1, I_ x1), (2, I_ x2), (3, I_ x3), (4, I_ x4), (5, I_ x5), (6, I_ x6), (7, I_ x7), (8, I_ x8), (9, I_ x9), (10, I_ x10)] (v.toList ++ []) n' S' g' 0 0 P))) ∧ ((x9 = 0) → Runs miX5_isInBox d [.ref 6, I_ x5, I_ x6, I_ x3] n (W0 dy) g (fun v n' S' g' => V miX5_doSidesMeet (d + 1) 130 [(0, .ref 6), (1, I_ x1), (2, I_ x2), (3, I_ x3), (4, I_ x4), (5, I_ x5), (6, I_ x6), (7, I_ x7), (8, I_ x8), (9, I_ x9), (10, I_ x10)] (v.toList ++ []) n' S' g' 0 0 P)))) : V miX5_doSidesMeet (d + 1) 113 [(0, .ref 6), (1, I_ x1), (2, I_ x2), (3, I_ x3), (4, I_ x4), (5, I_ x5), (6, I_ x6), (7, I_ x7), (8, I_ x8), (9, I_ x9), (10, I_ x10)] [I_ xs0] n (W0 dy) g 0 0 P := by
  have c1 := h.1
  have h := h.2
  refine v_if_ne 61 rfl (tgt := 151) rfl c1 (fun q2 => ?_) (fun q2 => ?_)
  · have h := h.1 q2
    refine v_iconst 78 rfl ?_
    refine v_goto 79 rfl (tgt := 156) rfl ?_
    exact v_ret (v := some (I_ 1)) 81 rfl (Nat.zero_le _) (Nat.zero_le _) (Or.inr rfl) rfl h
  · have h := h.2 q2
    refine v_iload 62 9 rfl rfl ?_
    have c3 := h.1
    have h := h.2
    refine v_if_ne 63 rfl (tgt := 133) rfl c3 (fun q4 => ?_) (fun q4 => ?_)
    · have h := h.1 q4
      refine v_iload 70 10 rfl rfl ?_
      have c5 := h.1
      have h := h.2
      refine v_if_ne 71 rfl (tgt := 155) rfl c5 (fun q6 => ?_) (fun q6 => ?_)
      · have h := h.1 q6
        refine v_iconst 80 rfl ?_
        exact v_ret (v := some (I_ 0)) 81 rfl (Nat.zero_le _) (Nat.zero_le _) (Or.inl rfl) rfl h
      · have h := h.2 q6
        refine v_aload_n 72 0 rfl rfl rfl ?_
        refine v_iload 73 5 rfl rfl ?_
        refine v_iload 74 6 rfl rfl ?_
        refine v_iload 75 4 rfl rfl ?_
        refine v_callV (st := []) [I_ x5, I_ x6, I_ x4] 76 rfl lv5_58_doSidesMeet_4 (al 6 rfl hn) (wk6 dy) (by decide) rfl (Nat.le_refl _) (Nat.le_refl _) ?_
        exact h
    · have h := h.2 q4
      refine v_aload_n 64 0 rfl rfl rfl ?_
      refine v_iload 65 5 rfl rfl ?_
      refine v_iload 66 6 rfl rfl ?_
      refine v_iload_n 67 3 rfl rfl rfl ?_
      refine v_callV (st := []) [I_ x5, I_ x6, I_ x3] 68 rfl lv5_58_doSidesMeet_4 (al 6 rfl hn) (wk6 dy) (by decide) rfl (Nat.le_refl _) (Nat.le_refl _) ?_
      exact h
set_option maxHeartbeats 8000000 in
set_option maxRecDepth 4000 in
theorem bX5_doSidesMeet_130 {d n : Nat} {dy : Nat → Shp} {g : Hp} {P : Pst} {x1 : Int} {x2 : Int} {x3 : Int} {x4 : Int} {x5 : Int} {x6 : Int} {x7 : Int} {x8 : Int} {x9 : Int} {x10 : Int} {xs0 : Int} (hn : 100 ≤ n) (h : (i3 xs0) ∧ ((xs0 ≠ 0) → P (some (I_ 1)) n (W0 dy) g) ∧ ((xs0 = 0) → (i3 x10) ∧ ((x10 ≠ 0) → P (some (I_ 0)) n (W0 dy) g) ∧ ((x10 = 0) → Runs miX5_isInBox d [.ref 6, I_ x5, I_ x6, I_ x4] n (W0 dy) g (fun v n' S' g' => V miX5_doSidesMeet (d + 1) 148 [(0, .ref 6), (1, I_ x1), (2, I_ x2), (3, I_ x3), (4, I_ x4), (5, I_ x5), (6, I_ x6), (7, I_ x7), (8, I_ x8), (9, I_ x9), (10, I_ x10)] (v.toList ++ []) n' S' g' 0 0 P)))) : V miX5_doSidesMeet (d + 1) 130 [(0, .ref 6), (1, I_ x1), (2, I_ x2), (3, I_ x3), (4, I_ x4), (5, I_ x5), (6, I_ x6), (7, I_ x7), (8, I_ x8), (9, I_ x9), (10, I_ x10)] [I_ xs0] n (W0 dy) g 0 0 P := by
  have c1 := h.1
  have h := h.2
  refine v_if_ne 69 rfl (tgt := 151) rfl c1 (fun q2 => ?_) (fun q2 => ?_)
  · have h := h.1 q2
    refine v_iconst 78 rfl ?_
    refine v_goto 79 rfl (tgt := 156) rfl ?_
    exact v_ret (v := some (I_ 1)) 81 rfl (Nat.zero_le _) (Nat.zero_le _) (Or.inr rfl) rfl h
  · have h := h.2 q2
    refine v_iload 70 10 rfl rfl ?_
    have c3 := h.1
    have h := h.2
    refine v_if_ne 71 rfl (tgt := 155) rfl c3 (fun q4 => ?_) (fun q4 => ?_)
    · have h := h.1 q4
      refine v_iconst 80 rfl ?_
      exact v_ret (v := some (I_ 0)) 81 rfl (Nat.zero_le _) (Nat.zero_le _) (Or.inl rfl) rfl h
    · have h := h.2 q4
      refine v_aload_n 72 0 rfl rfl rfl ?_
      refine v_iload 73 5 rfl rfl ?_
      refine v_iload 74 6 rfl rfl ?_
      refine v_iload 75 4 rfl rfl ?_
      refine v_callV (st := []) [I_ x5, I_ x6, I_ x4] 76 rfl lv5_58_doSidesMeet_4 (al 6 rfl hn) (wk6 dy) (by decide) rfl (Nat.le_refl _) (Nat.le_refl _) ?_
      exact h
set_option maxHeartbeats 8000000 in
set_option maxRecDepth 4000 in
theorem bX5_doSidesMeet_148 {d n : Nat} {dy : Nat → Shp} {g : Hp} {P : Pst} {x1 : Int} {x2 : Int} {x3 : Int} {x4 : Int} {x5 : Int} {x6 : Int} {x7 : Int} {x8 : Int} {x9 : Int} {x10 : Int} {xs0 : Int} (hn : 100 ≤ n) (h : (i3 xs0) ∧ ((xs0 = 0) → P (some (I_ 0)) n (W0 dy) g) ∧ ((xs0 ≠ 0) → P (some (I_ 1)) n (W0 dy) g)) : V miX5_doSidesMeet (d + 1) 148 [(0, .ref 6), (1, I_ x1), (2, I_ x2), (3, I_ x3), (4, I_ x4), (5, I_ x5), (6, I_ x6), (7, I_ x7), (8, I_ x8), (9, I_ x9), (10, I_ x10)] [I_ xs0] n (W0 dy) g 0 0 P := by
  have c1 := h.1
  have h := h.2
  refine v_if_eq 77 rfl (tgt := 155) rfl c1 (fun q2 => ?_) (fun q2 => ?_)
  · have h := h.1 q2
    refine v_iconst 80 rfl ?_
    exact v_ret (v := some (I_ 0)) 81 rfl (Nat.zero_le _) (Nat.zero_le _) (Or.inl rfl) rfl h
  · have h := h.2 q2
    refine v_iconst 78 rfl ?_
    refine v_goto 79 rfl (tgt := 156) rfl ?_
    exact v_ret (v := some (I_ 1)) 81 rfl (Nat.zero_le _) (Nat.zero_le _) (Or.inr rfl) rfl h
theorem wX5_doSidesMeet {d n : Nat} {dy : Nat → Shp} {g : Hp} {P : Pst} {x1 : Int} {x2 : Int} (hn : 100 ≤ n) (h : Runs miX5_next d [.ref 6, I_ x1] n (W0 dy) g (fun v n' S' g' => V miX5_doSidesMeet (d + 1) 7 [(0, .ref 6), (1, I_ x1), (2, I_ x2), (3, I_ x1)] (v.toList ++ []) n' S' g' 0 0 P)) : Runs miX5_doSidesMeet (d + 1) [.ref 6, I_ x1, I_ x2] n (W0 dy) g P := Runs.of rfl rfl deX5_doSidesMeet (Nat.le_of_ble_eq_true rfl) (bX5_doSidesMeet_0 hn h)
theorem ls5_62_turn : LkS miX5_turn miJ6_compare_7cf53 62 2 := ⟨⟨⟨tbG_in (List.mem_append_right _ (List.mem_of_getElem? (i := 526) (by decide +kernel))) rfl, tbG_in (List.mem_append_right _ (List.mem_of_getElem? (i := 16) (by decide +kernel))) rfl, tbG_in (List.mem_append_right _ (List.mem_of_getElem? (i := 524) (by decide +kernel))) rfl⟩, ⟨by decide +kernel, by decide +kernel, by decide +kernel⟩, by decide⟩, tbG_in (List.mem_append_right _ (List.mem_of_getElem? (i := 525) (by decide +kernel))) rfl⟩
set_option maxHeartbeats 8000000 in
set_option maxRecDepth 4000 in
theorem bX5_turn_0 {d n : Nat} {dy : Nat → Shp} {g : Hp} {P : Pst} {x1 : Int} {x2 : Int} {x3 : Int} (hn : 100 ≤ n) (h : (0 ≤ x2 ∧ x2 < 8) ∧ (0 ≤ x1 ∧ x1 < 8) ∧ (0 ≤ x3 ∧ x3 < 8) ∧ Runs miJ6_compare_7cf53 d [I_ ((((g 7 x2.toNat) - (g 7 x1.toNat)) * ((g 8 x3.toNat) - (g 8 x1.toNat))) - (((g 8 x2.toNat) - (g 8 x1.toNat)) * ((g 7 x3.toNat) - (g 7 x1.toNat)))), I_ 0] n (W0 dy) g (fun v n' S' g' => V miX5_turn (d + 1) 59 [(0, .ref 6), (1, I_ x1), (2, I_ x2), (3, I_ x3)] (v.toList ++ []) n' S' g' 0 0 P)) : V miX5_turn (d + 1) 0 [(0, .ref 6), (1, I_ x1), (2, I_ x2), (3, I_ x3)] [] n (W0 dy) g 0 0 P := by
  refine v_aload_n 0 0 rfl rfl rfl ?_
  refine v_gK 1 rfl fl5_9_4.r (al 6 rfl hn) (wk6 dy) (by decide) rfl (r := 7) (wc6_0 dy) ?_
  refine v_iload_n 2 2 rfl rfl rfl ?_
  have c1 := h.1
  have h := h.2
  refine v_ia (N := 8) 3 rfl (al 7 rfl hn) (wk7 dy) (wn7 dy) (by decide) c1 (y := g 7 x2.toNat) rfl ?_
  refine v_rng fun w2 => ?_
  have p3 : i3 (g 7 x2.toNat) := rI w2 (q := x2.toNat) (al 7 rfl hn) (wk7 dy) rfl rfl
  refine v_aload_n 4 0 rfl rfl rfl ?_
  refine v_gK 5 rfl fl5_9_4.r (al 6 rfl hn) (wk6 dy) (by decide) rfl (r := 7) (wc6_0 dy) ?_
  refine v_iload_n 6 1 rfl rfl rfl ?_
  have c4 := h.1
  have h := h.2
  refine v_ia (N := 8) 7 rfl (al 7 rfl hn) (wk7 dy) (wn7 dy) (by decide) c4 (y := g 7 x1.toNat) rfl ?_
  refine v_rng fun w5 => ?_
  have p6 : i3 (g 7 x1.toNat) := rI w5 (q := x1.toNat) (al 7 rfl hn) (wk7 dy) rfl rfl
  refine v_isub 8 rfl ?_
  refine v_aload_n 9 0 rfl rfl rfl ?_
  refine v_gK 10 rfl fl5_15_4.r (al 6 rfl hn) (wk6 dy) (by decide) rfl (r := 8) (wc6_1 dy) ?_
  refine v_iload_n 11 3 rfl rfl rfl ?_
  have c7 := h.1
  have h := h.2
  refine v_ia (N := 8) 12 rfl (al 8 rfl hn) (wk8 dy) (wn8 dy) (by decide) c7 (y := g 8 x3.toNat) rfl ?_
  refine v_rng fun w8 => ?_
  have p9 : i3 (g 8 x3.toNat) := rI w8 (q := x3.toNat) (al 8 rfl hn) (wk8 dy) rfl rfl
  refine v_aload_n 13 0 rfl rfl rfl ?_
  refine v_gK 14 rfl fl5_15_4.r (al 6 rfl hn) (wk6 dy) (by decide) rfl (r := 8) (wc6_1 dy) ?_
  refine v_iload_n 15 1 rfl rfl rfl ?_
  refine v_ia (N := 8) 16 rfl (al 8 rfl hn) (wk8 dy) (wn8 dy) (by decide) c4 (y := g 8 x1.toNat) rfl ?_
  refine v_rng fun w10 => ?_
  have p11 : i3 (g 8 x1.toNat) := rI w10 (q := x1.toNat) (al 8 rfl hn) (wk8 dy) rfl rfl
  refine v_isub 17 rfl ?_
  refine v_imul 18 rfl ?_
  refine v_aload_n 19 0 rfl rfl rfl ?_
  refine v_gK 20 rfl fl5_15_4.r (al 6 rfl hn) (wk6 dy) (by decide) rfl (r := 8) (wc6_1 dy) ?_
  refine v_iload_n 21 2 rfl rfl rfl ?_
  refine v_ia (N := 8) 22 rfl (al 8 rfl hn) (wk8 dy) (wn8 dy) (by decide) c1 (y := g 8 x2.toNat) rfl ?_
  refine v_rng fun w12 => ?_
  have p13 : i3 (g 8 x2.toNat) := rI w12 (q := x2.toNat) (al 8 rfl hn) (wk8 dy) rfl rfl
  refine v_aload_n 23 0 rfl rfl rfl ?_
  refine v_gK 24 rfl fl5_15_4.r (al 6 rfl hn) (wk6 dy) (by decide) rfl (r := 8) (wc6_1 dy) ?_
  refine v_iload_n 25 1 rfl rfl rfl ?_
  refine v_ia (N := 8) 26 rfl (al 8 rfl hn) (wk8 dy) (wn8 dy) (by decide) c4 (y := g 8 x1.toNat) rfl ?_
  refine v_rng fun w14 => ?_
  have p15 : i3 (g 8 x1.toNat) := rI w14 (q := x1.toNat) (al 8 rfl hn) (wk8 dy) rfl rfl
  refine v_isub 27 rfl ?_
  refine v_aload_n 28 0 rfl rfl rfl ?_
  refine v_gK 29 rfl fl5_9_4.r (al 6 rfl hn) (wk6 dy) (by decide) rfl (r := 7) (wc6_0 dy) ?_
  refine v_iload_n 30 3 rfl rfl rfl ?_
  refine v_ia (N := 8) 31 rfl (al 7 rfl hn) (wk7 dy) (wn7 dy) (by decide) c7 (y := g 7 x3.toNat) rfl ?_
  refine v_rng fun w16 => ?_
  have p17 : i3 (g 7 x3.toNat) := rI w16 (q := x3.toNat) (al 7 rfl hn) (wk7 dy) rfl rfl
  refine v_aload_n 32 0 rfl rfl rfl ?_
  refine v_gK 33 rfl fl5_9_4.r (al 6 rfl hn) (wk6 dy) (by decide) rfl (r := 7) (wc6_0 dy) ?_
  refine v_iload_n 34 1 rfl rfl rfl ?_
  refine v_ia (N := 8) 35 rfl (al 7 rfl hn) (wk7 dy) (wn7 dy) (by decide) c4 (y := g 7 x1.toNat) rfl ?_
  refine v_rng fun w18 => ?_
  have p19 : i3 (g 7 x1.toNat) := rI w18 (q := x1.toNat) (al 7 rfl hn) (wk7 dy) rfl rfl
  refine v_isub 36 rfl ?_
  refine v_imul 37 rfl ?_
  refine v_isub 38 rfl ?_
  refine v_iconst 39 rfl ?_
  refine v_callS (st := []) [I_ ((((g 7 x2.toNat) - (g 7 x1.toNat)) * ((g 8 x3.toNat) - (g 8 x1.toNat))) - (((g 8 x2.toNat) - (g 8 x1.toNat)) * ((g 7 x3.toNat) - (g 7 x1.toNat)))), I_ 0] 40 rfl ls5_62_turn rfl (Nat.lt_of_lt_of_le (by decide) hn) (Nat.le_refl _) (Nat.le_refl _) ?_
  exact h
set_option maxHeartbeats 8000000 in
set_option maxRecDepth 4000 in
theorem bX5_turn_59 {d n : Nat} {dy : Nat → Shp} {g : Hp} {P : Pst} {x1 : Int} {x2 : Int} {x3 : Int} {xs0 : Int} (hn : 100 ≤ n) (h : P (some (I_ xs0)) n (W0 dy) g) : V miX5_turn (d + 1) 59 [(0, .ref 6), (1, I_ x1), (2, I_ x2), (3, I_ x3)] [I_ xs0] n (W0 dy) g 0 0 P := by
  exact v_ret (v := some (I_ xs0)) 41 rfl (Nat.zero_le _) (Nat.zero_le _) trivial rfl h
theorem wX5_turn {d n : Nat} {dy : Nat → Shp} {g : Hp} {P : Pst} {x1 : Int} {x2 : Int} {x3 : Int} (hn : 100 ≤ n) (h : (0 ≤ x2 ∧ x2 < 8) ∧ (0 ≤ x1 ∧ x1 < 8) ∧ (0 ≤ x3 ∧ x3 < 8) ∧ Runs miJ6_compare_7cf53 d [I_ ((((g 7 x2.toNat) - (g 7 x1.toNat)) * ((g 8 x3.toNat) - (g 8 x1.toNat))) - (((g 8 x2.toNat) - (g 8 x1.toNat)) * ((g 7 x3.toNat) - (g 7 x1.toNat)))), I_ 0] n (W0 dy) g (fun v n' S' g' => V miX5_turn (d + 1) 59 [(0, .ref 6), (1, I_ x1), (2, I_ x2), (3, I_ x3)] (v.toList ++ []) n' S' g' 0 0 P)) : Runs miX5_turn (d + 1) [.ref 6, I_ x1, I_ x2, I_ x3] n (W0 dy) g P := Runs.of rfl rfl deX5_turn (Nat.le_of_ble_eq_true rfl) (bX5_turn_0 hn h)
theorem lm5_22_isInBox : LkM miX5_isInBox 22 Lib.Math.min.name Lib.Math.min.code 2 .int := ⟨tbG_in (List.mem_append_right _ (List.mem_of_getElem? (i := 499) (by decide +kernel))) rfl, tbG_in (List.mem_append_right _ (List.mem_of_getElem? (i := 500) (by decide +kernel))) rfl, tbG_in (List.mem_append_right _ (List.mem_of_getElem? (i := 15) (by decide +kernel))) rfl, tbG_in (List.mem_append_right _ (List.mem_of_getElem? (i := 501) (by decide +kernel))) rfl⟩
theorem lm5_67_isInBox : LkM miX5_isInBox 67 Lib.Math.max.name Lib.Math.max.code 2 .int := ⟨tbG_in (List.mem_append_right _ (List.mem_of_getElem? (i := 535) (by decide +kernel))) rfl, tbG_in (List.mem_append_right _ (List.mem_of_getElem? (i := 536) (by decide +kernel))) rfl, tbG_in (List.mem_append_right _ (List.mem_of_getElem? (i := 15) (by decide +kernel))) rfl, tbG_in (List.mem_append_right _ (List.mem_of_getElem? (i := 537) (by decide +kernel))) rfl⟩
set_option maxHeartbeats 8000000 in
set_option maxRecDepth 4000 in
theorem bX5_isInBox_0 {d n : Nat} {dy : Nat → Shp} {g : Hp} {P : Pst} {x1 : Int} {x2 : Int} {x3 : Int} (hn : 100 ≤ n) (h : (0 ≤ x1 ∧ x1 < 8) ∧ (0 ≤ x2 ∧ x2 < 8) ∧ (0 ≤ x3 ∧ x3 < 8) ∧ (((g 7 x3.toNat) < (min (g 7 x1.toNat) (g 7 x2.toNat))) → P (some (I_ 0)) n (W0 dy) g) ∧ (((min (g 7 x1.toNat) (g 7 x2.toNat)) ≤ (g 7 x3.toNat)) → (((max (g 7 x1.toNat) (g 7 x2.toNat)) < (g 7 x3.toNat)) → P (some (I_ 0)) n (W0 dy) g) ∧ (((g 7 x3.toNat) ≤ (max (g 7 x1.toNat) (g 7 x2.toNat))) → (((g 8 x3.toNat) < (min (g 8 x1.toNat) (g 8 x2.toNat))) → P (some (I_ 0)) n (W0 dy) g) ∧ (((min (g 8 x1.toNat) (g 8 x2.toNat)) ≤ (g 8 x3.toNat)) → (((max (g 8 x1.toNat) (g 8 x2.toNat)) < (g 8 x3.toNat)) → P (some (I_ 0)) n (W0 dy) g) ∧ (((g 8 x3.toNat) ≤ (max (g 8 x1.toNat) (g 8 x2.toNat))) → P (some (I_ 1)) n (W0 dy) g))))) : V miX5_isInBox (d + 1) 0 [(0, .ref 6), (1, I_ x1), (2, I_ x2), (3, I_ x3)] [] n (W0 dy) g 0 0 P := by
  refine v_aload_n 0 0 rfl rfl rfl ?_
  refine v_gK 1 rfl fl5_9_4.r (al 6 rfl hn) (wk6 dy) (by decide) rfl (r := 7) (wc6_0 dy) ?_
  refine v_iload_n 2 1 rfl rfl rfl ?_
  have c1 := h.1
  have h := h.2
  refine v_ia (N := 8) 3 rfl (al 7 rfl hn) (wk7 dy) (wn7 dy) (by decide) c1 (y := g 7 x1.toNat) rfl ?_
  refine v_rng fun w2 => ?_
  have p3 : i3 (g 7 x1.toNat) := rI w2 (q := x1.toNat) (al 7 rfl hn) (wk7 dy) rfl rfl
  refine v_aload_n 4 0 rfl rfl rfl ?_
  refine v_gK 5 rfl fl5_9_4.r (al 6 rfl hn) (wk6 dy) (by decide) rfl (r := 7) (wc6_0 dy) ?_
  refine v_iload_n 6 2 rfl rfl rfl ?_
  have c4 := h.1
  have h := h.2
  refine v_ia (N := 8) 7 rfl (al 7 rfl hn) (wk7 dy) (wn7 dy) (by decide) c4 (y := g 7 x2.toNat) rfl ?_
  refine v_rng fun w5 => ?_
  have p6 : i3 (g 7 x2.toNat) := rI w5 (q := x2.toNat) (al 7 rfl hn) (wk7 dy) rfl rfl
  refine v_mmin (st := []) 8 rfl lm5_22_isInBox rfl (Nat.zero_le _) (Nat.zero_le _) p3 p6 ?_
  refine v_aload_n 9 0 rfl rfl rfl ?_
  refine v_gK 10 rfl fl5_9_4.r (al 6 rfl hn) (wk6 dy) (by decide) rfl (r := 7) (wc6_0 dy) ?_
  refine v_iload_n 11 3 rfl rfl rfl ?_
  have c7 := h.1
  have h := h.2
  refine v_ia (N := 8) 12 rfl (al 7 rfl hn) (wk7 dy) (wn7 dy) (by decide) c7 (y := g 7 x3.toNat) rfl ?_
  refine v_rng fun w8 => ?_
  have p9 : i3 (g 7 x3.toNat) := rI w8 (q := x3.toNat) (al 7 rfl hn) (wk7 dy) rfl rfl
  refine v_icmp_gt 13 rfl (tgt := 100) rfl (min_i3 p3 p6) p9 (fun q10 => ?_) (fun q10 => ?_)
  · have h := h.1 q10
    refine v_iconst 58 rfl ?_
    exact v_ret (v := some (I_ 0)) 59 rfl (Nat.zero_le _) (Nat.zero_le _) (Or.inl rfl) rfl h
  · have h := h.2 q10
    refine v_aload_n 14 0 rfl rfl rfl ?_
    refine v_gK 15 rfl fl5_9_4.r (al 6 rfl hn) (wk6 dy) (by decide) rfl (r := 7) (wc6_0 dy) ?_
    refine v_iload_n 16 3 rfl rfl rfl ?_
    refine v_ia (N := 8) 17 rfl (al 7 rfl hn) (wk7 dy) (wn7 dy) (by decide) c7 (y := g 7 x3.toNat) rfl ?_
    refine v_rng fun w11 => ?_
    have p12 : i3 (g 7 x3.toNat) := rI w11 (q := x3.toNat) (al 7 rfl hn) (wk7 dy) rfl rfl
    refine v_aload_n 18 0 rfl rfl rfl ?_
    refine v_gK 19 rfl fl5_9_4.r (al 6 rfl hn) (wk6 dy) (by decide) rfl (r := 7) (wc6_0 dy) ?_
    refine v_iload_n 20 1 rfl rfl rfl ?_
    refine v_ia (N := 8) 21 rfl (al 7 rfl hn) (wk7 dy) (wn7 dy) (by decide) c1 (y := g 7 x1.toNat) rfl ?_
    refine v_rng fun w13 => ?_
    have p14 : i3 (g 7 x1.toNat) := rI w13 (q := x1.toNat) (al 7 rfl hn) (wk7 dy) rfl rfl
    refine v_aload_n 22 0 rfl rfl rfl ?_
    refine v_gK 23 rfl fl5_9_4.r (al 6 rfl hn) (wk6 dy) (by decide) rfl (r := 7) (wc6_0 dy) ?_
    refine v_iload_n 24 2 rfl rfl rfl ?_
    refine v_ia (N := 8) 25 rfl (al 7 rfl hn) (wk7 dy) (wn7 dy) (by decide) c4 (y := g 7 x2.toNat) rfl ?_
    refine v_rng fun w15 => ?_
    have p16 : i3 (g 7 x2.toNat) := rI w15 (q := x2.toNat) (al 7 rfl hn) (wk7 dy) rfl rfl
    refine v_mmax (st := [I_ (g 7 x3.toNat)]) 26 rfl lm5_67_isInBox rfl (Nat.zero_le _) (Nat.zero_le _) p14 p16 ?_
    refine v_icmp_gt 27 rfl (tgt := 100) rfl p12 (max_i3 p14 p16) (fun q17 => ?_) (fun q17 => ?_)
    · have h := h.1 q17
      refine v_iconst 58 rfl ?_
      exact v_ret (v := some (I_ 0)) 59 rfl (Nat.zero_le _) (Nat.zero_le _) (Or.inl rfl) rfl h
    · have h := h.2 q17
      refine v_aload_n 28 0 rfl rfl rfl ?_
      refine v_gK 29 rfl fl5_15_4.r (al 6 rfl hn) (wk6 dy) (by decide) rfl (r := 8) (wc6_1 dy) ?_
      refine v_iload_n 30 1 rfl rfl rfl ?_
      refine v_ia (N := 8) 31 rfl (al 8 rfl hn) (wk8 dy) (wn8 dy) (by decide) c1 (y := g 8 x1.toNat) rfl ?_
      refine v_rng fun w18 => ?_
      have p19 : i3 (g 8 x1.toNat) := rI w18 (q := x1.toNat) (al 8 rfl hn) (wk8 dy) rfl rfl
      refine v_aload_n 32 0 rfl rfl rfl ?_
      refine v_gK 33 rfl fl5_15_4.r (al 6 rfl hn) (wk6 dy) (by decide) rfl (r := 8) (wc6_1 dy) ?_
      refine v_iload_n 34 2 rfl rfl rfl ?_
      refine v_ia (N := 8) 35 rfl (al 8 rfl hn) (wk8 dy) (wn8 dy) (by decide) c4 (y := g 8 x2.toNat) rfl ?_
      refine v_rng fun w20 => ?_
      have p21 : i3 (g 8 x2.toNat) := rI w20 (q := x2.toNat) (al 8 rfl hn) (wk8 dy) rfl rfl
      refine v_mmin (st := []) 36 rfl lm5_22_isInBox rfl (Nat.zero_le _) (Nat.zero_le _) p19 p21 ?_
      refine v_aload_n 37 0 rfl rfl rfl ?_
      refine v_gK 38 rfl fl5_15_4.r (al 6 rfl hn) (wk6 dy) (by decide) rfl (r := 8) (wc6_1 dy) ?_
      refine v_iload_n 39 3 rfl rfl rfl ?_
      refine v_ia (N := 8) 40 rfl (al 8 rfl hn) (wk8 dy) (wn8 dy) (by decide) c7 (y := g 8 x3.toNat) rfl ?_
      refine v_rng fun w22 => ?_
      have p23 : i3 (g 8 x3.toNat) := rI w22 (q := x3.toNat) (al 8 rfl hn) (wk8 dy) rfl rfl
      refine v_icmp_gt 41 rfl (tgt := 100) rfl (min_i3 p19 p21) p23 (fun q24 => ?_) (fun q24 => ?_)
      · have h := h.1 q24
        refine v_iconst 58 rfl ?_
        exact v_ret (v := some (I_ 0)) 59 rfl (Nat.zero_le _) (Nat.zero_le _) (Or.inl rfl) rfl h
      · have h := h.2 q24
        refine v_aload_n 42 0 rfl rfl rfl ?_
        refine v_gK 43 rfl fl5_15_4.r (al 6 rfl hn) (wk6 dy) (by decide) rfl (r := 8) (wc6_1 dy) ?_
        refine v_iload_n 44 3 rfl rfl rfl ?_
        refine v_ia (N := 8) 45 rfl (al 8 rfl hn) (wk8 dy) (wn8 dy) (by decide) c7 (y := g 8 x3.toNat) rfl ?_
        refine v_rng fun w25 => ?_
        have p26 : i3 (g 8 x3.toNat) := rI w25 (q := x3.toNat) (al 8 rfl hn) (wk8 dy) rfl rfl
        refine v_aload_n 46 0 rfl rfl rfl ?_
        refine v_gK 47 rfl fl5_15_4.r (al 6 rfl hn) (wk6 dy) (by decide) rfl (r := 8) (wc6_1 dy) ?_
        refine v_iload_n 48 1 rfl rfl rfl ?_
        refine v_ia (N := 8) 49 rfl (al 8 rfl hn) (wk8 dy) (wn8 dy) (by decide) c1 (y := g 8 x1.toNat) rfl ?_
        refine v_rng fun w27 => ?_
        have p28 : i3 (g 8 x1.toNat) := rI w27 (q := x1.toNat) (al 8 rfl hn) (wk8 dy) rfl rfl
        refine v_aload_n 50 0 rfl rfl rfl ?_
        refine v_gK 51 rfl fl5_15_4.r (al 6 rfl hn) (wk6 dy) (by decide) rfl (r := 8) (wc6_1 dy) ?_
        refine v_iload_n 52 2 rfl rfl rfl ?_
        refine v_ia (N := 8) 53 rfl (al 8 rfl hn) (wk8 dy) (wn8 dy) (by decide) c4 (y := g 8 x2.toNat) rfl ?_
        refine v_rng fun w29 => ?_
        have p30 : i3 (g 8 x2.toNat) := rI w29 (q := x2.toNat) (al 8 rfl hn) (wk8 dy) rfl rfl
        refine v_mmax (st := [I_ (g 8 x3.toNat)]) 54 rfl lm5_67_isInBox rfl (Nat.zero_le _) (Nat.zero_le _) p28 p30 ?_
        refine v_icmp_gt 55 rfl (tgt := 100) rfl p26 (max_i3 p28 p30) (fun q31 => ?_) (fun q31 => ?_)
        · have h := h.1 q31
          refine v_iconst 58 rfl ?_
          exact v_ret (v := some (I_ 0)) 59 rfl (Nat.zero_le _) (Nat.zero_le _) (Or.inl rfl) rfl h
        · have h := h.2 q31
          refine v_iconst 56 rfl ?_
          refine v_goto 57 rfl (tgt := 101) rfl ?_
          exact v_ret (v := some (I_ 1)) 59 rfl (Nat.zero_le _) (Nat.zero_le _) (Or.inr rfl) rfl h
theorem wX5_isInBox {d n : Nat} {dy : Nat → Shp} {g : Hp} {P : Pst} {x1 : Int} {x2 : Int} {x3 : Int} (hn : 100 ≤ n) (h : (0 ≤ x1 ∧ x1 < 8) ∧ (0 ≤ x2 ∧ x2 < 8) ∧ (0 ≤ x3 ∧ x3 < 8) ∧ (((g 7 x3.toNat) < (min (g 7 x1.toNat) (g 7 x2.toNat))) → P (some (I_ 0)) n (W0 dy) g) ∧ (((min (g 7 x1.toNat) (g 7 x2.toNat)) ≤ (g 7 x3.toNat)) → (((max (g 7 x1.toNat) (g 7 x2.toNat)) < (g 7 x3.toNat)) → P (some (I_ 0)) n (W0 dy) g) ∧ (((g 7 x3.toNat) ≤ (max (g 7 x1.toNat) (g 7 x2.toNat))) → (((g 8 x3.toNat) < (min (g 8 x1.toNat) (g 8 x2.toNat))) → P (some (I_ 0)) n (W0 dy) g) ∧ (((min (g 8 x1.toNat) (g 8 x2.toNat)) ≤ (g 8 x3.toNat)) → (((max (g 8 x1.toNat) (g 8 x2.toNat)) < (g 8 x3.toNat)) → P (some (I_ 0)) n (W0 dy) g) ∧ (((g 8 x3.toNat) ≤ (max (g 8 x1.toNat) (g 8 x2.toNat))) → P (some (I_ 1)) n (W0 dy) g))))) : Runs miX5_isInBox (d + 1) [.ref 6, I_ x1, I_ x2, I_ x3] n (W0 dy) g P := Runs.of rfl rfl deX5_isInBox (Nat.le_of_ble_eq_true rfl) (bX5_isInBox_0 hn h)
