theorem fl0_21_0 : FL RX0 21 0 2 false .int := ⟨RX0, TX0, 11, "MobileMaker$Clearing", rfl, rfl, by decide, kf0, tbG_in (List.mem_append_right _ (List.mem_of_getElem? (i := 97) (by decide +kernel))) rfl, Or.inl rfl, rfl, by decide +kernel, ⟨tyX0, tyX0_ok⟩, nmX0, fun h => by cases h⟩
theorem fl0_29_0 : FL RX0 29 0 4 false .int := ⟨RX0, TX0, 11, "MobileMaker$Clearing", rfl, rfl, by decide, kf0, tbG_in (List.mem_append_right _ (List.mem_of_getElem? (i := 99) (by decide +kernel))) rfl, Or.inl rfl, rfl, by decide +kernel, ⟨tyX0, tyX0_ok⟩, nmX0, fun h => by cases h⟩
theorem fl0_41_0 : FL RX0 41 0 8 false .int := ⟨RX0, TX0, 11, "MobileMaker$Clearing", rfl, rfl, by decide, kf0, tbG_in (List.mem_append_right _ (List.mem_of_getElem? (i := 103) (by decide +kernel))) rfl, Or.inl rfl, rfl, by decide +kernel, ⟨tyX0, tyX0_ok⟩, nmX0, fun h => by cases h⟩
theorem fl0_44_0 : FL RX0 44 0 9 false .int := ⟨RX0, TX0, 11, "MobileMaker$Clearing", rfl, rfl, by decide, kf0, tbG_in (List.mem_append_right _ (List.mem_of_getElem? (i := 104) (by decide +kernel))) rfl, Or.inl rfl, rfl, by decide +kernel, ⟨tyX0, tyX0_ok⟩, nmX0, fun h => by cases h⟩
theorem fl0_47_0 : FL RX0 47 0 10 false .int := ⟨RX0, TX0, 11, "MobileMaker$Clearing", rfl, rfl, by decide, kf0, tbG_in (List.mem_append_right _ (List.mem_of_getElem? (i := 105) (by decide +kernel))) rfl, Or.inl rfl, rfl, by decide +kernel, ⟨tyX0, tyX0_ok⟩, nmX0, fun h => by cases h⟩
set_option maxHeartbeats 8000000 in
set_option maxRecDepth 4000 in
theorem bX0_begin_0 {d n : Nat} {dy : Nat → Shp} {g : Hp} {P : Pst}  (hn : 100 ≤ n) (h : P none n (W0 dy) (up2 (up2 (up2 (up2 (up2 g 11 2 0) 11 4 0) 11 8 0) 11 9 0) 11 10 0)) : V miX0_begin d 0 [(0, .ref 11)] [] n (W0 dy) g 0 0 P := by
  refine v_aload_n 0 0 rfl rfl rfl ?_
  refine v_iconst 1 rfl ?_
  refine v_putI 2 rfl fl0_21_0 (al 11 rfl hn) (wk11 dy) (by decide) rfl (wc11_2 dy) (by decide) ?_
  refine v_aload_n 3 0 rfl rfl rfl ?_
  refine v_iconst 4 rfl ?_
  refine v_putI 5 rfl fl0_29_0 (al 11 rfl hn) (wk11 dy) (by decide) rfl (wc11_4 dy) (by decide) ?_
  refine v_aload_n 6 0 rfl rfl rfl ?_
  refine v_iconst 7 rfl ?_
  refine v_putI 8 rfl fl0_41_0 (al 11 rfl hn) (wk11 dy) (by decide) rfl (wc11_8 dy) (by decide) ?_
  refine v_aload_n 9 0 rfl rfl rfl ?_
  refine v_iconst 10 rfl ?_
  refine v_putI 11 rfl fl0_44_0 (al 11 rfl hn) (wk11 dy) (by decide) rfl (wc11_9 dy) (by decide) ?_
  refine v_aload_n 12 0 rfl rfl rfl ?_
  refine v_iconst 13 rfl ?_
  refine v_putI 14 rfl fl0_47_0 (al 11 rfl hn) (wk11 dy) (by decide) rfl (wc11_10 dy) (by decide) ?_
  exact v_ret (v := none) 15 rfl (Nat.zero_le _) (Nat.zero_le _) trivial rfl h
theorem wX0_begin {d n : Nat} {dy : Nat → Shp} {g : Hp} {P : Pst}  (hn : 100 ≤ n) (h : P none n (W0 dy) (up2 (up2 (up2 (up2 (up2 g 11 2 0) 11 4 0) 11 8 0) 11 9 0) 11 10 0)) : Runs miX0_begin d [.ref 11] n (W0 dy) g P := Runs.of rfl rfl deX0_begin (Nat.le_of_ble_eq_true rfl) (bX0_begin_0 hn h)
theorem fl0_11_0 : FL RX0 11 0 0 true (.array (.object "MobileMaker$Part")) := ⟨RX0, TX0, 11, "MobileMaker$Clearing", rfl, rfl, by decide, kf0, tbG_in (List.mem_append_right _ (List.mem_of_getElem? (i := 95) (by decide +kernel))) rfl, Or.inl rfl, rfl, by decide +kernel, ⟨tyX0, tyX0_ok⟩, nmX0, fun _ => rfl⟩
theorem fl0_50_3 : FL RX0 50 3 5 false .int := ⟨RX4, TX4, 14, "MobileMaker$Part", rfl, rfl, by decide, kf3, tbG_in (List.mem_append_right _ (List.mem_of_getElem? (i := 378) (by decide +kernel))) rfl, Or.inl rfl, rfl, by decide +kernel, ⟨tyX4, tyX4_ok⟩, nmX4, fun h => by cases h⟩
theorem fl0_50_5 : FL RX0 50 5 5 false .int := ⟨RX6, TX6, 16, "MobileMaker$Part", rfl, rfl, by decide, kf5, tbG_in (List.mem_append_right _ (List.mem_of_getElem? (i := 378) (by decide +kernel))) rfl, Or.inl rfl, rfl, by decide +kernel, ⟨tyX6, tyX6_ok⟩, nmX6, fun h => by cases h⟩
theorem fl0_50_9 : FL RX0 50 9 5 false .int := ⟨RX10, TX10, 10, "MobileMaker$Part", rfl, rfl, by decide, kf9, tbG_in (List.mem_append_right _ (List.mem_of_getElem? (i := 378) (by decide +kernel))) rfl, Or.inl rfl, rfl, by decide +kernel, ⟨tyX10, tyX10_ok⟩, nmX10, fun h => by cases h⟩
theorem fl0_17_0 : FL RX0 17 0 1 true (.array .int) := ⟨RX0, TX0, 11, "MobileMaker$Clearing", rfl, rfl, by decide, kf0, tbG_in (List.mem_append_right _ (List.mem_of_getElem? (i := 96) (by decide +kernel))) rfl, Or.inl rfl, rfl, by decide +kernel, ⟨tyX0, tyX0_ok⟩, nmX0, fun _ => rfl⟩
set_option maxHeartbeats 8000000 in
set_option maxRecDepth 4000 in
theorem bX0_offer_0 {d n : Nat} {dy : Nat → Shp} {g : Hp} {P : Pst} {r1 : Nat} (hn : 100 ≤ n) (h : ((60 ≤ (g 11 2)) → P none n (W0 dy) g) ∧ (((g 11 2) < 60) → (Pt n (W0 dy) r1) ∧ ((1000 ≤ (g r1 5)) → P none n (W0 dy) g) ∧ (((g r1 5) < 1000) → (0 ≤ g 11 2 ∧ g 11 2 < 60) ∧ (i3 ((g 11 2) + 1)) ∧ P none n (W0 dy) (up2 (up2 (up2 g 12 ((g 11 2).toNat) (((r1 : Nat) : Int))) 13 ((g 11 2).toNat) 0) 11 2 ((g 11 2) + 1))))) : V miX0_offer d 0 [(0, .ref 11), (1, .ref r1)] [] n (W0 dy) g 0 0 P := by
  refine v_aload_n 0 0 rfl rfl rfl ?_
  refine v_gI 1 rfl fl0_21_0.r (al 11 rfl hn) (wk11 dy) (by decide) rfl (wc11_2 dy) (x := g 11 2) rfl ?_
  refine v_rng fun w1 => ?_
  have p2 : i3 (g 11 2) := rI w1 (q := 2) (al 11 rfl hn) (wk11 dy) rfl rfl
  refine v_aload_n 2 0 rfl rfl rfl ?_
  refine v_gK 3 rfl fl0_11_0.r (al 11 rfl hn) (wk11 dy) (by decide) rfl (r := 12) (wc11_0 dy) ?_
  refine v_alen (N := 60) (t := 16) 4 rfl (al 12 rfl hn) (wk12 dy) (by decide) (fun _ => rfl) (wn12 dy) ?_
  refine v_icmp_ge 5 rfl (tgt := 52) rfl p2 (by decide) (fun q3 => ?_) (fun q3 => ?_)
  · have h := h.1 q3
    exact v_ret (v := none) 28 rfl (Nat.zero_le _) (Nat.zero_le _) trivial rfl h
  · have h := h.2 q3
    refine v_aload_n 6 1 rfl rfl rfl ?_
    have c4 := h.1
    have h := h.2
    refine v_pI 7 rfl ⟨fl0_50_3.r, fl0_50_5.r, fl0_50_9.r⟩ c4 ⟨rfl, rfl, rfl⟩ (x := g r1 5) rfl ?_
    refine v_rng fun w5 => ?_
    have p6 : i3 (g r1 5) := rPI w5 (q := 5) c4 rfl rfl rfl rfl
    refine v_sipush 8 rfl (by decide) ?_
    refine v_icmp_ge 9 rfl (tgt := 52) rfl p6 (by decide) (fun q7 => ?_) (fun q7 => ?_)
    · have h := h.1 q7
      exact v_ret (v := none) 28 rfl (Nat.zero_le _) (Nat.zero_le _) trivial rfl h
    · have h := h.2 q7
      refine v_aload_n 10 0 rfl rfl rfl ?_
      refine v_gK 11 rfl fl0_11_0.r (al 11 rfl hn) (wk11 dy) (by decide) rfl (r := 12) (wc11_0 dy) ?_
      refine v_aload_n 12 0 rfl rfl rfl ?_
      refine v_gI 13 rfl fl0_21_0.r (al 11 rfl hn) (wk11 dy) (by decide) rfl (wc11_2 dy) (x := g 11 2) rfl ?_
      refine v_rng fun w8 => ?_
      have p9 : i3 (g 11 2) := rI w8 (q := 2) (al 11 rfl hn) (wk11 dy) rfl rfl
      refine v_aload_n 14 1 rfl rfl rfl ?_
      have c10 := h.1
      have h := h.2
      refine v_pastP (N := 60) 15 rfl (al 12 rfl hn) (wk12 dy) (wn12 dy) (by decide) c10 c4 ?_
      refine v_aload_n 16 0 rfl rfl rfl ?_
      refine v_gK 17 rfl fl0_17_0.r (al 11 rfl hn) (wk11 dy) (by decide) rfl (r := 13) (wc11_1 dy) ?_
      refine v_aload_n 18 0 rfl rfl rfl ?_
      refine v_gI 19 rfl fl0_21_0.r (al 11 rfl hn) (wk11 dy) (by decide) rfl (wc11_2 dy) (x := g 11 2) rfl ?_
      refine v_rng fun w11 => ?_
      have p12 : i3 (g 11 2) := rI w11 (q := 2) (al 11 rfl hn) (wk11 dy) rfl rfl
      refine v_iconst 20 rfl ?_
      refine v_iast (N := 60) 21 rfl (al 13 rfl hn) (wk13 dy) (wn13 dy) (by decide) c10 (by decide) ?_
      refine v_aload_n 22 0 rfl rfl rfl ?_
      refine v_dup 23 rfl (by intro h; cases h) ?_
      refine v_gI 24 rfl fl0_21_0.r (al 11 rfl hn) (wk11 dy) (by decide) rfl (wc11_2 dy) (x := g 11 2) rfl ?_
      refine v_rng fun w13 => ?_
      have p14 : i3 (g 11 2) := rI w13 (q := 2) (al 11 rfl hn) (wk11 dy) rfl rfl
      refine v_iconst 25 rfl ?_
      refine v_iadd 26 rfl ?_
      have c15 := h.1
      have h := h.2
      refine v_putI 27 rfl fl0_21_0 (al 11 rfl hn) (wk11 dy) (by decide) rfl (wc11_2 dy) c15 ?_
      exact v_ret (v := none) 28 rfl (Nat.zero_le _) (Nat.zero_le _) trivial rfl h
theorem wX0_offer {d n : Nat} {dy : Nat → Shp} {g : Hp} {P : Pst} {r1 : Nat} (hn : 100 ≤ n) (h : ((60 ≤ (g 11 2)) → P none n (W0 dy) g) ∧ (((g 11 2) < 60) → (Pt n (W0 dy) r1) ∧ ((1000 ≤ (g r1 5)) → P none n (W0 dy) g) ∧ (((g r1 5) < 1000) → (0 ≤ g 11 2 ∧ g 11 2 < 60) ∧ (i3 ((g 11 2) + 1)) ∧ P none n (W0 dy) (up2 (up2 (up2 g 12 ((g 11 2).toNat) (((r1 : Nat) : Int))) 13 ((g 11 2).toNat) 0) 11 2 ((g 11 2) + 1))))) : Runs miX0_offer d [.ref 11, .ref r1] n (W0 dy) g P := Runs.of rfl rfl deX0_offer (Nat.le_of_ble_eq_true rfl) (bX0_offer_0 hn h)
theorem fl0_32_0 : FL RX0 32 0 5 true (.array .long) := ⟨RX0, TX0, 11, "MobileMaker$Clearing", rfl, rfl, by decide, kf0, tbG_in (List.mem_append_right _ (List.mem_of_getElem? (i := 100) (by decide +kernel))) rfl, Or.inl rfl, rfl, by decide +kernel, ⟨tyX0, tyX0_ok⟩, nmX0, fun _ => rfl⟩
theorem fl0_53_3 : FL RX0 53 3 6 false .long := ⟨RX4, TX4, 14, "MobileMaker$Part", rfl, rfl, by decide, kf3, tbG_in (List.mem_append_right _ (List.mem_of_getElem? (i := 388) (by decide +kernel))) rfl, Or.inl rfl, rfl, by decide +kernel, ⟨tyX4, tyX4_ok⟩, nmX4, fun h => by cases h⟩
theorem fl0_53_5 : FL RX0 53 5 6 false .long := ⟨RX6, TX6, 16, "MobileMaker$Part", rfl, rfl, by decide, kf5, tbG_in (List.mem_append_right _ (List.mem_of_getElem? (i := 388) (by decide +kernel))) rfl, Or.inl rfl, rfl, by decide +kernel, ⟨tyX6, tyX6_ok⟩, nmX6, fun h => by cases h⟩
theorem fl0_53_9 : FL RX0 53 9 6 false .long := ⟨RX10, TX10, 10, "MobileMaker$Part", rfl, rfl, by decide, kf9, tbG_in (List.mem_append_right _ (List.mem_of_getElem? (i := 388) (by decide +kernel))) rfl, Or.inl rfl, rfl, by decide +kernel, ⟨tyX10, tyX10_ok⟩, nmX10, fun h => by cases h⟩
theorem fl0_35_0 : FL RX0 35 0 6 true (.array .long) := ⟨RX0, TX0, 11, "MobileMaker$Clearing", rfl, rfl, by decide, kf0, tbG_in (List.mem_append_right _ (List.mem_of_getElem? (i := 101) (by decide +kernel))) rfl, Or.inl rfl, rfl, by decide +kernel, ⟨tyX0, tyX0_ok⟩, nmX0, fun _ => rfl⟩
theorem fl0_38_0 : FL RX0 38 0 7 true (.array .int) := ⟨RX0, TX0, 11, "MobileMaker$Clearing", rfl, rfl, by decide, kf0, tbG_in (List.mem_append_right _ (List.mem_of_getElem? (i := 102) (by decide +kernel))) rfl, Or.inl rfl, rfl, by decide +kernel, ⟨tyX0, tyX0_ok⟩, nmX0, fun _ => rfl⟩
theorem fl0_59_3 : FL RX0 59 3 7 false .int := ⟨RX4, TX4, 14, "MobileMaker$Part", rfl, rfl, by decide, kf3, tbG_in (List.mem_append_right _ (List.mem_of_getElem? (i := 394) (by decide +kernel))) rfl, Or.inl rfl, rfl, by decide +kernel, ⟨tyX4, tyX4_ok⟩, nmX4, fun h => by cases h⟩
theorem fl0_59_5 : FL RX0 59 5 7 false .int := ⟨RX6, TX6, 16, "MobileMaker$Part", rfl, rfl, by decide, kf5, tbG_in (List.mem_append_right _ (List.mem_of_getElem? (i := 394) (by decide +kernel))) rfl, Or.inl rfl, rfl, by decide +kernel, ⟨tyX6, tyX6_ok⟩, nmX6, fun h => by cases h⟩
theorem fl0_59_9 : FL RX0 59 9 7 false .int := ⟨RX10, TX10, 10, "MobileMaker$Part", rfl, rfl, by decide, kf9, tbG_in (List.mem_append_right _ (List.mem_of_getElem? (i := 394) (by decide +kernel))) rfl, Or.inl rfl, rfl, by decide +kernel, ⟨tyX10, tyX10_ok⟩, nmX10, fun h => by cases h⟩
set_option maxHeartbeats 8000000 in
set_option maxRecDepth 4000 in
theorem bX0_watch_0 {d n : Nat} {dy : Nat → Shp} {g : Hp} {P : Pst} {r1 : Nat} {r2 : Nat} (hn : 100 ≤ n) (h : ((435 ≤ (g 11 8)) → P none n (W0 dy) g) ∧ (((g 11 8) < 435) → (Pt n (W0 dy) r1) ∧ (Pt n (W0 dy) r2) ∧ ∀ y12 : Int, y12 = and6 (g r1 6) (xor6 (g r2 6) ((-1))) → (0 ≤ g 11 8 ∧ g 11 8 < 435) ∧ ∀ y20 : Int, y20 = and6 ((up2 g 15 ((g 11 8).toNat) y12) r2 6) (xor6 ((up2 g 15 ((g 11 8).toNat) y12) r1 6) ((-1))) → ∀ y27 : Int, y27 = ((up2 (up2 g 15 ((g 11 8).toNat) y12) 16 ((g 11 8).toNat) y20) r1 7) - ((up2 (up2 g 15 ((g 11 8).toNat) y12) 16 ((g 11 8).toNat) y20) r2 7) → (i3 y27) ∧ (i3 ((g 11 8) + 1)) ∧ P none n (W0 dy) (up2 (up2 (up2 (up2 g 15 ((g 11 8).toNat) y12) 16 ((g 11 8).toNat) y20) 17 ((g 11 8).toNat) y27) 11 8 ((g 11 8) + 1)))) : V miX0_watch d 0 [(0, .ref 11), (1, .ref r1), (2, .ref r2)] [] n (W0 dy) g 0 0 P := by
  refine v_aload_n 0 0 rfl rfl rfl ?_
  refine v_gI 1 rfl fl0_41_0.r (al 11 rfl hn) (wk11 dy) (by decide) rfl (wc11_8 dy) (x := g 11 8) rfl ?_
  refine v_rng fun w1 => ?_
  have p2 : i3 (g 11 8) := rI w1 (q := 8) (al 11 rfl hn) (wk11 dy) rfl rfl
  refine v_sipush 2 rfl (by decide) ?_
  refine v_icmp_ge 3 rfl (tgt := 82) rfl p2 (by decide) (fun q3 => ?_) (fun q3 => ?_)
  · have h := h.1 q3
    exact v_ret (v := none) 44 rfl (Nat.zero_le _) (Nat.zero_le _) trivial rfl h
  · have h := h.2 q3
    refine v_aload_n 4 0 rfl rfl rfl ?_
    refine v_gK 5 rfl fl0_32_0.r (al 11 rfl hn) (wk11 dy) (by decide) rfl (r := 15) (wc11_5 dy) ?_
    refine v_aload_n 6 0 rfl rfl rfl ?_
    refine v_gI 7 rfl fl0_41_0.r (al 11 rfl hn) (wk11 dy) (by decide) rfl (wc11_8 dy) (x := g 11 8) rfl ?_
    refine v_rng fun w4 => ?_
    have p5 : i3 (g 11 8) := rI w4 (q := 8) (al 11 rfl hn) (wk11 dy) rfl rfl
    refine v_aload_n 8 1 rfl rfl rfl ?_
    have c6 := h.1
    have h := h.2
    refine v_pL 9 rfl ⟨fl0_53_3.r, fl0_53_5.r, fl0_53_9.r⟩ c6 ⟨rfl, rfl, rfl⟩ (x := g r1 6) rfl ?_
    refine v_rng fun w7 => ?_
    have p8 : i6 (g r1 6) := rPL w7 (q := 6) c6 rfl rfl rfl rfl
    refine v_aload_n 10 2 rfl rfl rfl ?_
    have c9 := h.1
    have h := h.2
    refine v_pL 11 rfl ⟨fl0_53_3.r, fl0_53_5.r, fl0_53_9.r⟩ c9 ⟨rfl, rfl, rfl⟩ (x := g r2 6) rfl ?_
    refine v_rng fun w10 => ?_
    have p11 : i6 (g r2 6) := rPL w10 (q := 6) c9 rfl rfl rfl rfl
    refine v_ldc2 (v := (-1)) 12 rfl (tbG_in (List.mem_append_right _ (List.mem_of_getElem? (i := 850) (by decide +kernel))) rfl) ?_
    refine v_lxor 13 rfl ?_
    refine v_land 14 rfl ?_
    refine v_nmL (fun y12 ey12 => ?_)
    have h := h y12 ey12
    have ry12 : i6 y12 := by rw [ey12]; exact (and6_r _ _)
    have c13 := h.1
    have h := h.2
    refine v_last (N := 435) 15 rfl (al 15 rfl hn) (wk15 dy) (wn15 dy) (by decide) c13 ry12 ?_
    refine v_aload_n 16 0 rfl rfl rfl ?_
    refine v_gK 17 rfl fl0_35_0.r (al 11 rfl hn) (wk11 dy) (by decide) rfl (r := 16) (wc11_6 dy) ?_
    refine v_aload_n 18 0 rfl rfl rfl ?_
    refine v_gI 19 rfl fl0_41_0.r (al 11 rfl hn) (wk11 dy) (by decide) rfl (wc11_8 dy) (x := g 11 8) rfl ?_
    refine v_rng fun w14 => ?_
    have p15 : i3 (g 11 8) := rI w14 (q := 8) (al 11 rfl hn) (wk11 dy) rfl rfl
    refine v_aload_n 20 2 rfl rfl rfl ?_
    refine v_pL 21 rfl ⟨fl0_53_3.r, fl0_53_5.r, fl0_53_9.r⟩ c9 ⟨rfl, rfl, rfl⟩ (x := (up2 g 15 ((g 11 8).toNat) y12) r2 6) rfl ?_
    refine v_rng fun w16 => ?_
    have p17 : i6 ((up2 g 15 ((g 11 8).toNat) y12) r2 6) := rPL w16 (q := 6) c9 rfl rfl rfl rfl
    refine v_aload_n 22 1 rfl rfl rfl ?_
    refine v_pL 23 rfl ⟨fl0_53_3.r, fl0_53_5.r, fl0_53_9.r⟩ c6 ⟨rfl, rfl, rfl⟩ (x := (up2 g 15 ((g 11 8).toNat) y12) r1 6) rfl ?_
    refine v_rng fun w18 => ?_
    have p19 : i6 ((up2 g 15 ((g 11 8).toNat) y12) r1 6) := rPL w18 (q := 6) c6 rfl rfl rfl rfl
    refine v_ldc2 (v := (-1)) 24 rfl (tbG_in (List.mem_append_right _ (List.mem_of_getElem? (i := 850) (by decide +kernel))) rfl) ?_
    refine v_lxor 25 rfl ?_
    refine v_land 26 rfl ?_
    refine v_nmL (fun y20 ey20 => ?_)
    have h := h y20 ey20
    have ry20 : i6 y20 := by rw [ey20]; exact (and6_r _ _)
    refine v_last (N := 435) 27 rfl (al 16 rfl hn) (wk16 dy) (wn16 dy) (by decide) c13 ry20 ?_
    refine v_aload_n 28 0 rfl rfl rfl ?_
    refine v_gK 29 rfl fl0_38_0.r (al 11 rfl hn) (wk11 dy) (by decide) rfl (r := 17) (wc11_7 dy) ?_
    refine v_aload_n 30 0 rfl rfl rfl ?_
    refine v_gI 31 rfl fl0_41_0.r (al 11 rfl hn) (wk11 dy) (by decide) rfl (wc11_8 dy) (x := g 11 8) rfl ?_
    refine v_rng fun w21 => ?_
    have p22 : i3 (g 11 8) := rI w21 (q := 8) (al 11 rfl hn) (wk11 dy) rfl rfl
    refine v_aload_n 32 1 rfl rfl rfl ?_
    refine v_pI 33 rfl ⟨fl0_59_3.r, fl0_59_5.r, fl0_59_9.r⟩ c6 ⟨rfl, rfl, rfl⟩ (x := (up2 (up2 g 15 ((g 11 8).toNat) y12) 16 ((g 11 8).toNat) y20) r1 7) rfl ?_
    refine v_rng fun w23 => ?_
    have p24 : i3 ((up2 (up2 g 15 ((g 11 8).toNat) y12) 16 ((g 11 8).toNat) y20) r1 7) := rPI w23 (q := 7) c6 rfl rfl rfl rfl
    refine v_aload_n 34 2 rfl rfl rfl ?_
    refine v_pI 35 rfl ⟨fl0_59_3.r, fl0_59_5.r, fl0_59_9.r⟩ c9 ⟨rfl, rfl, rfl⟩ (x := (up2 (up2 g 15 ((g 11 8).toNat) y12) 16 ((g 11 8).toNat) y20) r2 7) rfl ?_
    refine v_rng fun w25 => ?_
    have p26 : i3 ((up2 (up2 g 15 ((g 11 8).toNat) y12) 16 ((g 11 8).toNat) y20) r2 7) := rPI w25 (q := 7) c9 rfl rfl rfl rfl
    refine v_isub 36 rfl ?_
    refine v_nmI (fun y27 ey27 => ?_)
    have h := h y27 ey27
    have c28 := h.1
    have h := h.2
    refine v_iast (N := 435) 37 rfl (al 17 rfl hn) (wk17 dy) (wn17 dy) (by decide) c13 c28 ?_
    refine v_aload_n 38 0 rfl rfl rfl ?_
    refine v_dup 39 rfl (by intro h; cases h) ?_
    refine v_gI 40 rfl fl0_41_0.r (al 11 rfl hn) (wk11 dy) (by decide) rfl (wc11_8 dy) (x := g 11 8) rfl ?_
    refine v_rng fun w29 => ?_
    have p30 : i3 (g 11 8) := rI w29 (q := 8) (al 11 rfl hn) (wk11 dy) rfl rfl
    refine v_iconst 41 rfl ?_
    refine v_iadd 42 rfl ?_
    have c31 := h.1
    have h := h.2
    refine v_putI 43 rfl fl0_41_0 (al 11 rfl hn) (wk11 dy) (by decide) rfl (wc11_8 dy) c31 ?_
    exact v_ret (v := none) 44 rfl (Nat.zero_le _) (Nat.zero_le _) trivial rfl h
theorem wX0_watch {d n : Nat} {dy : Nat → Shp} {g : Hp} {P : Pst} {r1 : Nat} {r2 : Nat} (hn : 100 ≤ n) (h : ((435 ≤ (g 11 8)) → P none n (W0 dy) g) ∧ (((g 11 8) < 435) → (Pt n (W0 dy) r1) ∧ (Pt n (W0 dy) r2) ∧ ∀ y12 : Int, y12 = and6 (g r1 6) (xor6 (g r2 6) ((-1))) → (0 ≤ g 11 8 ∧ g 11 8 < 435) ∧ ∀ y20 : Int, y20 = and6 ((up2 g 15 ((g 11 8).toNat) y12) r2 6) (xor6 ((up2 g 15 ((g 11 8).toNat) y12) r1 6) ((-1))) → ∀ y27 : Int, y27 = ((up2 (up2 g 15 ((g 11 8).toNat) y12) 16 ((g 11 8).toNat) y20) r1 7) - ((up2 (up2 g 15 ((g 11 8).toNat) y12) 16 ((g 11 8).toNat) y20) r2 7) → (i3 y27) ∧ (i3 ((g 11 8) + 1)) ∧ P none n (W0 dy) (up2 (up2 (up2 (up2 g 15 ((g 11 8).toNat) y12) 16 ((g 11 8).toNat) y20) 17 ((g 11 8).toNat) y27) 11 8 ((g 11 8) + 1)))) : Runs miX0_watch d [.ref 11, .ref r1, .ref r2] n (W0 dy) g P := Runs.of rfl rfl deX0_watch (Nat.le_of_ble_eq_true rfl) (bX0_watch_0 hn h)
theorem lv0_62_search_0 : LkV miX0_search miX0_lengthen 62 2 0 := ⟨⟨⟨tbG_in (List.mem_append_right _ (List.mem_of_getElem? (i := 858) (by decide +kernel))) rfl, tbG_in (List.mem_append_right _ (List.mem_of_getElem? (i := 5) (by decide +kernel))) rfl, tbG_in (List.mem_append_right _ (List.mem_of_getElem? (i := 855) (by decide +kernel))) rfl⟩, ⟨by decide +kernel, by decide +kernel, by decide +kernel⟩, by decide⟩, tbG_in (List.mem_append_right _ (List.mem_of_getElem? (i := 857) (by decide +kernel))) rfl, RX0, TX0, 11, rfl, tbG_in (List.mem_append_left _ (List.mem_of_getElem? (i := 23) (by decide +kernel))) rfl⟩
set_option maxHeartbeats 8000000 in
set_option maxRecDepth 4000 in
theorem bX0_search_0 {d n : Nat} {dy : Nat → Shp} {g : Hp} {P : Pst} {x1 : Int} (hn : 100 ≤ n) (h : Runs miX0_lengthen d [.ref 11, I_ 0, I_ x1] n (W0 dy) g (fun v n' S' g' => V miX0_search (d + 1) 6 [(0, .ref 11), (1, I_ x1)] (v.toList ++ []) n' S' g' 0 0 P)) : V miX0_search (d + 1) 0 [(0, .ref 11), (1, I_ x1)] [] n (W0 dy) g 0 0 P := by
  refine v_aload_n 0 0 rfl rfl rfl ?_
  refine v_iconst 1 rfl ?_
  refine v_iload_n 2 1 rfl rfl rfl ?_
  refine v_callV (st := []) [I_ 0, I_ x1] 3 rfl lv0_62_search_0 (al 11 rfl hn) (wk11 dy) (by decide) rfl (Nat.le_refl _) (Nat.le_refl _) ?_
  exact h
set_option maxHeartbeats 8000000 in
set_option maxRecDepth 4000 in
theorem bX0_search_6 {d n : Nat} {dy : Nat → Shp} {g : Hp} {P : Pst} {x1 : Int} {xs0 : Int} (hn : 100 ≤ n) (h : P (some (I_ xs0)) n (W0 dy) g) : V miX0_search (d + 1) 6 [(0, .ref 11), (1, I_ x1)] [I_ xs0] n (W0 dy) g 0 0 P := by
  exact v_ret (v := some (I_ xs0)) 4 rfl (Nat.zero_le _) (Nat.zero_le _) trivial rfl h
theorem wX0_search {d n : Nat} {dy : Nat → Shp} {g : Hp} {P : Pst} {x1 : Int} (hn : 100 ≤ n) (h : Runs miX0_lengthen d [.ref 11, I_ 0, I_ x1] n (W0 dy) g (fun v n' S' g' => V miX0_search (d + 1) 6 [(0, .ref 11), (1, I_ x1)] (v.toList ++ []) n' S' g' 0 0 P)) : Runs miX0_search (d + 1) [.ref 11, I_ x1] n (W0 dy) g P := Runs.of rfl rfl deX0_search (Nat.le_of_ble_eq_true rfl) (bX0_search_0 hn h)
theorem fl0_25_0 : FL RX0 25 0 3 true (.array .long) := ⟨RX0, TX0, 11, "MobileMaker$Clearing", rfl, rfl, by decide, kf0, tbG_in (List.mem_append_right _ (List.mem_of_getElem? (i := 98) (by decide +kernel))) rfl, Or.inl rfl, rfl, by decide +kernel, ⟨tyX0, tyX0_ok⟩, nmX0, fun _ => rfl⟩
theorem lv0_66_lengthen_0 : LkV miX0_lengthen miX0_look 66 0 0 := ⟨⟨⟨tbG_in (List.mem_append_right _ (List.mem_of_getElem? (i := 862) (by decide +kernel))) rfl, tbG_in (List.mem_append_right _ (List.mem_of_getElem? (i := 5) (by decide +kernel))) rfl, tbG_in (List.mem_append_right _ (List.mem_of_getElem? (i := 859) (by decide +kernel))) rfl⟩, ⟨by decide +kernel, by decide +kernel, by decide +kernel⟩, by decide⟩, tbG_in (List.mem_append_right _ (List.mem_of_getElem? (i := 861) (by decide +kernel))) rfl, RX0, TX0, 11, rfl, tbG_in (List.mem_append_left _ (List.mem_of_getElem? (i := 24) (by decide +kernel))) rfl⟩
theorem lv0_70_lengthen_3 : LkV miX0_lengthen miX2_bit 70 0 3 := ⟨⟨⟨tbG_in (List.mem_append_right _ (List.mem_of_getElem? (i := 693) (by decide +kernel))) rfl, tbG_in (List.mem_append_right _ (List.mem_of_getElem? (i := 12) (by decide +kernel))) rfl, tbG_in (List.mem_append_right _ (List.mem_of_getElem? (i := 867) (by decide +kernel))) rfl⟩, ⟨by decide +kernel, by decide +kernel, by decide +kernel⟩, by decide⟩, tbG_in (List.mem_append_right _ (List.mem_of_getElem? (i := 688) (by decide +kernel))) rfl, RX4, TX4, 14, rfl, tbG_in (List.mem_append_right _ (List.mem_of_getElem? (i := 690) (by decide +kernel))) rfl⟩
theorem lv0_70_lengthen_5 : LkV miX0_lengthen miX2_bit 70 0 5 := ⟨⟨⟨tbG_in (List.mem_append_right _ (List.mem_of_getElem? (i := 693) (by decide +kernel))) rfl, tbG_in (List.mem_append_right _ (List.mem_of_getElem? (i := 12) (by decide +kernel))) rfl, tbG_in (List.mem_append_right _ (List.mem_of_getElem? (i := 867) (by decide +kernel))) rfl⟩, ⟨by decide +kernel, by decide +kernel, by decide +kernel⟩, by decide⟩, tbG_in (List.mem_append_right _ (List.mem_of_getElem? (i := 688) (by decide +kernel))) rfl, RX6, TX6, 16, rfl, tbG_in (List.mem_append_right _ (List.mem_of_getElem? (i := 691) (by decide +kernel))) rfl⟩
theorem lv0_70_lengthen_9 : LkV miX0_lengthen miX2_bit 70 0 9 := ⟨⟨⟨tbG_in (List.mem_append_right _ (List.mem_of_getElem? (i := 693) (by decide +kernel))) rfl, tbG_in (List.mem_append_right _ (List.mem_of_getElem? (i := 12) (by decide +kernel))) rfl, tbG_in (List.mem_append_right _ (List.mem_of_getElem? (i := 867) (by decide +kernel))) rfl⟩, ⟨by decide +kernel, by decide +kernel, by decide +kernel⟩, by decide⟩, tbG_in (List.mem_append_right _ (List.mem_of_getElem? (i := 688) (by decide +kernel))) rfl, RX10, TX10, 10, rfl, tbG_in (List.mem_append_right _ (List.mem_of_getElem? (i := 692) (by decide +kernel))) rfl⟩
theorem lv0_62_lengthen_0 : LkV miX0_lengthen miX0_lengthen 62 2 0 := ⟨⟨⟨tbG_in (List.mem_append_right _ (List.mem_of_getElem? (i := 858) (by decide +kernel))) rfl, tbG_in (List.mem_append_right _ (List.mem_of_getElem? (i := 5) (by decide +kernel))) rfl, tbG_in (List.mem_append_right _ (List.mem_of_getElem? (i := 855) (by decide +kernel))) rfl⟩, ⟨by decide +kernel, by decide +kernel, by decide +kernel⟩, by decide⟩, tbG_in (List.mem_append_right _ (List.mem_of_getElem? (i := 857) (by decide +kernel))) rfl, RX0, TX0, 11, rfl, tbG_in (List.mem_append_left _ (List.mem_of_getElem? (i := 23) (by decide +kernel))) rfl⟩
set_option maxHeartbeats 8000000 in
set_option maxRecDepth 4000 in
theorem bX0_lengthen_0 {d n : Nat} {dy : Nat → Shp} {g : Hp} {P : Pst} {x1 : Int} {x2 : Int} (hn : 100 ≤ n) (h : (i3 x2) ∧ ((x2 ≤ 0) → ((x2 ≤ 0) → Runs miX0_look d [.ref 11] n (W0 dy) g (fun v n' S' g' => V miX0_lengthen (d + 1) 28 [(0, .ref 11), (1, I_ x1), (2, I_ x2)] (v.toList ++ []) n' S' g' 0 0 P)) ∧ ((0 < x2) → V miX0_lengthen (d + 1) 28 [(0, .ref 11), (1, I_ x1), (2, I_ x2)] [I_ 0] n (W0 dy) g 0 0 P)) ∧ ((0 < x2) → (((g 11 4) < 5) → V miX0_lengthen (d + 1) 31 [(0, .ref 11), (1, I_ x1), (2, I_ x2), (3, I_ x1)] [] n (W0 dy) g 0 0 P) ∧ ((5 ≤ (g 11 4)) → ((x2 ≤ 0) → Runs miX0_look d [.ref 11] n (W0 dy) g (fun v n' S' g' => V miX0_lengthen (d + 1) 28 [(0, .ref 11), (1, I_ x1), (2, I_ x2)] (v.toList ++ []) n' S' g' 0 0 P)) ∧ ((0 < x2) → V miX0_lengthen (d + 1) 28 [(0, .ref 11), (1, I_ x1), (2, I_ x2)] [I_ 0] n (W0 dy) g 0 0 P)))) : V miX0_lengthen (d + 1) 0 [(0, .ref 11), (1, I_ x1), (2, I_ x2)] [] n (W0 dy) g 0 0 P := by
  refine v_iload_n 0 2 rfl rfl rfl ?_
  have c1 := h.1
  have h := h.2
  refine v_if_le 1 rfl (tgt := 16) rfl c1 (fun q2 => ?_) (fun q2 => ?_)
  · have h := h.1 q2
    refine v_iload_n 8 2 rfl rfl rfl ?_
    refine v_if_le 9 rfl (tgt := 24) rfl c1 (fun q3 => ?_) (fun q3 => ?_)
    · have h := h.1 q3
      refine v_aload_n 12 0 rfl rfl rfl ?_
      refine v_callV (st := []) [] 13 rfl lv0_66_lengthen_0 (al 11 rfl hn) (wk11 dy) (by decide) rfl (Nat.le_refl _) (Nat.le_refl _) ?_
      exact h
    · have h := h.2 q3
      refine v_iconst 10 rfl ?_
      refine v_goto 11 rfl (tgt := 28) rfl ?_
      exact h
  · have h := h.2 q2
    refine v_aload_n 2 0 rfl rfl rfl ?_
    refine v_gI 3 rfl fl0_29_0.r (al 11 rfl hn) (wk11 dy) (by decide) rfl (wc11_4 dy) (x := g 11 4) rfl ?_
    refine v_rng fun w4 => ?_
    have p5 : i3 (g 11 4) := rI w4 (q := 4) (al 11 rfl hn) (wk11 dy) rfl rfl
    refine v_aload_n 4 0 rfl rfl rfl ?_
    refine v_gK 5 rfl fl0_25_0.r (al 11 rfl hn) (wk11 dy) (by decide) rfl (r := 14) (wc11_3 dy) ?_
    refine v_alen (N := 5) (t := 14) 6 rfl (al 14 rfl hn) (wk14 dy) (by decide) (fun _ => rfl) (wn14 dy) ?_
    refine v_icmp_lt 7 rfl (tgt := 29) rfl p5 (by decide) (fun q6 => ?_) (fun q6 => ?_)
    · have h := h.1 q6
      refine v_iload_n 15 1 rfl rfl rfl ?_
      refine v_istore_n 16 [1, 2, 3, 0] rfl rfl (by decide) rfl ?_
      exact h
    · have h := h.2 q6
      refine v_iload_n 8 2 rfl rfl rfl ?_
      refine v_if_le 9 rfl (tgt := 24) rfl c1 (fun q7 => ?_) (fun q7 => ?_)
      · have h := h.1 q7
        refine v_aload_n 12 0 rfl rfl rfl ?_
        refine v_callV (st := []) [] 13 rfl lv0_66_lengthen_0 (al 11 rfl hn) (wk11 dy) (by decide) rfl (Nat.le_refl _) (Nat.le_refl _) ?_
        exact h
      · have h := h.2 q7
        refine v_iconst 10 rfl ?_
        refine v_goto 11 rfl (tgt := 28) rfl ?_
        exact h
set_option maxHeartbeats 8000000 in
set_option maxRecDepth 4000 in
theorem bX0_lengthen_28 {d n : Nat} {dy : Nat → Shp} {g : Hp} {P : Pst} {x1 : Int} {x2 : Int} {xs0 : Int} (hn : 100 ≤ n) (h : P (some (I_ xs0)) n (W0 dy) g) : V miX0_lengthen (d + 1) 28 [(0, .ref 11), (1, I_ x1), (2, I_ x2)] [I_ xs0] n (W0 dy) g 0 0 P := by
  exact v_ret (v := some (I_ xs0)) 14 rfl (Nat.zero_le _) (Nat.zero_le _) trivial rfl h
set_option maxHeartbeats 8000000 in
set_option maxRecDepth 4000 in
theorem bX0_lengthen_31 {d n : Nat} {dy : Nat → Shp} {g : Hp} {P : Pst} {x1 : Int} {x2 : Int} {x3 : Int} (hn : 100 ≤ n) (h : (i3 x3) ∧ (((g 11 2) ≤ x3) → P (some (I_ 0)) n (W0 dy) g) ∧ ((x3 < (g 11 2)) → (0 ≤ x3 ∧ x3 < 60) ∧ (Pt n (W0 dy) ((g 12 x3.toNat).toNat)) ∧ (i3 ((g ((g 12 x3.toNat).toNat) 5) + (g 13 x3.toNat))) ∧ ((1000 ≤ ((g ((g 12 x3.toNat).toNat) 5) + (g 13 x3.toNat))) → V miX0_lengthen (d + 1) 31 [(0, .ref 11), (1, I_ x1), (2, I_ x2), (3, I_ (x3 + 1))] [] n (W0 dy) g 0 0 P) ∧ ((((g ((g 12 x3.toNat).toNat) 5) + (g 13 x3.toNat)) < 1000) → Runs miX2_bit d [.ref ((g 12 x3.toNat).toNat)] n (W0 dy) g (fun v n' S' g' => V miX0_lengthen (d + 1) 78 [(0, .ref 11), (1, I_ x1), (2, I_ x2), (3, I_ x3)] (v.toList ++ [I_ (g 11 4), .ref 14]) n' S' g' 0 0 P)))) : V miX0_lengthen (d + 1) 31 [(0, .ref 11), (1, I_ x1), (2, I_ x2), (3, I_ x3)] [] n (W0 dy) g 0 0 P := by
  refine v_iload_n 17 3 rfl rfl rfl ?_
  refine v_aload_n 18 0 rfl rfl rfl ?_
  refine v_gI 19 rfl fl0_21_0.r (al 11 rfl hn) (wk11 dy) (by decide) rfl (wc11_2 dy) (x := g 11 2) rfl ?_
  refine v_rng fun w1 => ?_
  have p2 : i3 (g 11 2) := rI w1 (q := 2) (al 11 rfl hn) (wk11 dy) rfl rfl
  have c3 := h.1
  have h := h.2
  refine v_icmp_ge 20 rfl (tgt := 143) rfl c3 p2 (fun q4 => ?_) (fun q4 => ?_)
  · have h := h.1 q4
    refine v_iconst 84 rfl ?_
    exact v_ret (v := some (I_ 0)) 85 rfl (Nat.zero_le _) (Nat.zero_le _) trivial rfl h
  · have h := h.2 q4
    refine v_aload_n 21 0 rfl rfl rfl ?_
    refine v_gK 22 rfl fl0_11_0.r (al 11 rfl hn) (wk11 dy) (by decide) rfl (r := 12) (wc11_0 dy) ?_
    refine v_iload_n 23 3 rfl rfl rfl ?_
    have c5 := h.1
    have h := h.2
    refine v_pa (N := 60) 24 rfl (al 12 rfl hn) (wk12 dy) (wn12 dy) (by decide) c5 (y := g 12 x3.toNat) rfl ?_
    have c6 := h.1
    have h := h.2
    refine v_pI 25 rfl ⟨fl0_50_3.r, fl0_50_5.r, fl0_50_9.r⟩ c6 ⟨rfl, rfl, rfl⟩ (x := g ((g 12 x3.toNat).toNat) 5) rfl ?_
    refine v_rng fun w7 => ?_
    have p8 : i3 (g ((g 12 x3.toNat).toNat) 5) := rPI w7 (q := 5) c6 rfl rfl rfl rfl
    refine v_aload_n 26 0 rfl rfl rfl ?_
    refine v_gK 27 rfl fl0_17_0.r (al 11 rfl hn) (wk11 dy) (by decide) rfl (r := 13) (wc11_1 dy) ?_
    refine v_iload_n 28 3 rfl rfl rfl ?_
    refine v_ia (N := 60) 29 rfl (al 13 rfl hn) (wk13 dy) (wn13 dy) (by decide) c5 (y := g 13 x3.toNat) rfl ?_
    refine v_rng fun w9 => ?_
    have p10 : i3 (g 13 x3.toNat) := rI w9 (q := x3.toNat) (al 13 rfl hn) (wk13 dy) rfl rfl
    refine v_iadd 30 rfl ?_
    refine v_sipush 31 rfl (by decide) ?_
    have c11 := h.1
    have h := h.2
    refine v_icmp_ge 32 rfl (tgt := 137) rfl c11 (by decide) (fun q12 => ?_) (fun q12 => ?_)
    · have h := h.1 q12
      refine v_iinc 82 3 [1, 2, 3, 0] rfl rfl (by decide) rfl ?_
      refine v_goto 83 rfl (tgt := 31) rfl ?_
      exact h
    · have h := h.2 q12
      refine v_aload_n 33 0 rfl rfl rfl ?_
      refine v_gK 34 rfl fl0_25_0.r (al 11 rfl hn) (wk11 dy) (by decide) rfl (r := 14) (wc11_3 dy) ?_
      refine v_aload_n 35 0 rfl rfl rfl ?_
      refine v_gI 36 rfl fl0_29_0.r (al 11 rfl hn) (wk11 dy) (by decide) rfl (wc11_4 dy) (x := g 11 4) rfl ?_
      refine v_rng fun w13 => ?_
      have p14 : i3 (g 11 4) := rI w13 (q := 4) (al 11 rfl hn) (wk11 dy) rfl rfl
      refine v_aload_n 37 0 rfl rfl rfl ?_
      refine v_gK 38 rfl fl0_11_0.r (al 11 rfl hn) (wk11 dy) (by decide) rfl (r := 12) (wc11_0 dy) ?_
      refine v_iload_n 39 3 rfl rfl rfl ?_
      refine v_pa (N := 60) 40 rfl (al 12 rfl hn) (wk12 dy) (wn12 dy) (by decide) c5 (y := g 12 x3.toNat) rfl ?_
      refine v_callP (st := [I_ (g 11 4), .ref 14]) [] 41 rfl lv0_70_lengthen_3 lv0_70_lengthen_5 lv0_70_lengthen_9 c6 rfl (Nat.le_refl _) (Nat.le_refl _) ?_
      exact h
set_option maxHeartbeats 8000000 in
set_option maxRecDepth 4000 in
theorem bX0_lengthen_78 {d n : Nat} {dy : Nat → Shp} {g : Hp} {P : Pst} {x1 : Int} {x2 : Int} {x3 : Int} {xs1 : Int} {xs2 : Int} (hn : 100 ≤ n) (h : (0 ≤ xs1 ∧ xs1 < 5) ∧ (i6 xs2) ∧ (i3 ((g 11 4) + 1)) ∧ (0 ≤ x3 ∧ x3 < 60) ∧ (i3 ((g 13 x3.toNat) + 1)) ∧ Runs miX0_lengthen d [.ref 11, I_ x3, I_ (x2 - 1)] n (W0 dy) (up2 (up2 (up2 g 14 xs1.toNat xs2) 11 4 ((g 11 4) + 1)) 13 x3.toNat ((g 13 x3.toNat) + 1)) (fun v n' S' g' => V miX0_lengthen (d + 1) 107 [(0, .ref 11), (1, I_ x1), (2, I_ x2), (3, I_ x3)] (v.toList ++ []) n' S' g' 0 0 P)) : V miX0_lengthen (d + 1) 78 [(0, .ref 11), (1, I_ x1), (2, I_ x2), (3, I_ x3)] [L_ xs2, I_ xs1, .ref 14] n (W0 dy) g 0 0 P := by
  have c1 := h.1
  have h := h.2
  have c2 := h.1
  have h := h.2
  refine v_last (N := 5) 42 rfl (al 14 rfl hn) (wk14 dy) (wn14 dy) (by decide) c1 c2 ?_
  refine v_aload_n 43 0 rfl rfl rfl ?_
  refine v_dup 44 rfl (by intro h; cases h) ?_
  refine v_gI 45 rfl fl0_29_0.r (al 11 rfl hn) (wk11 dy) (by decide) rfl (wc11_4 dy) (x := g 11 4) rfl ?_
  refine v_rng fun w3 => ?_
  have p4 : i3 (g 11 4) := rI w3 (q := 4) (al 11 rfl hn) (wk11 dy) rfl rfl
  refine v_iconst 46 rfl ?_
  refine v_iadd 47 rfl ?_
  have c5 := h.1
  have h := h.2
  refine v_putI 48 rfl fl0_29_0 (al 11 rfl hn) (wk11 dy) (by decide) rfl (wc11_4 dy) c5 ?_
  refine v_aload_n 49 0 rfl rfl rfl ?_
  refine v_gK 50 rfl fl0_17_0.r (al 11 rfl hn) (wk11 dy) (by decide) rfl (r := 13) (wc11_1 dy) ?_
  refine v_iload_n 51 3 rfl rfl rfl ?_
  refine v_dup2 52 rfl (by intro h; cases h) (by intro h; cases h) ?_
  have c6 := h.1
  have h := h.2
  refine v_ia (N := 60) 53 rfl (al 13 rfl hn) (wk13 dy) (wn13 dy) (by decide) c6 (y := g 13 x3.toNat) rfl ?_
  refine v_rng fun w7 => ?_
  have p8 : i3 (g 13 x3.toNat) := rI w7 (q := x3.toNat) (al 13 rfl hn) (wk13 dy) rfl rfl
  refine v_iconst 54 rfl ?_
  refine v_iadd 55 rfl ?_
  have c9 := h.1
  have h := h.2
  refine v_iast (N := 60) 56 rfl (al 13 rfl hn) (wk13 dy) (wn13 dy) (by decide) c6 c9 ?_
  refine v_aload_n 57 0 rfl rfl rfl ?_
  refine v_iload_n 58 3 rfl rfl rfl ?_
  refine v_iload_n 59 2 rfl rfl rfl ?_
  refine v_iconst 60 rfl ?_
  refine v_isub 61 rfl ?_
  refine v_callV (st := []) [I_ x3, I_ (x2 - 1)] 62 rfl lv0_62_lengthen_0 (al 11 rfl hn) (wk11 dy) (by decide) rfl (Nat.le_refl _) (Nat.le_refl _) ?_
  exact h
set_option maxHeartbeats 8000000 in
set_option maxRecDepth 4000 in
theorem bX0_lengthen_107 {d n : Nat} {dy : Nat → Shp} {g : Hp} {P : Pst} {x1 : Int} {x2 : Int} {x3 : Int} {xs0 : Int} (hn : 100 ≤ n) (h : (i3 ((g 11 4) - 1)) ∧ (i3 xs0) ∧ ((xs0 = 0) → (0 ≤ x3 ∧ x3 < 60) ∧ (i3 ((g 13 x3.toNat) - 1)) ∧ V miX0_lengthen (d + 1) 31 [(0, .ref 11), (1, I_ x1), (2, I_ x2), (3, I_ (x3 + 1))] [] n (W0 dy) (up2 (up2 g 11 4 ((g 11 4) - 1)) 13 x3.toNat ((g 13 x3.toNat) - 1)) 0 0 P) ∧ ((xs0 ≠ 0) → P (some (I_ xs0)) n (W0 dy) (up2 g 11 4 ((g 11 4) - 1)))) : V miX0_lengthen (d + 1) 107 [(0, .ref 11), (1, I_ x1), (2, I_ x2), (3, I_ x3)] [I_ xs0] n (W0 dy) g 0 0 P := by
  refine v_istore 63 [1, 2, 3, 4, 0] rfl (by decide) rfl ?_
  refine v_aload_n 64 0 rfl rfl rfl ?_
  refine v_dup 65 rfl (by intro h; cases h) ?_
  refine v_gI 66 rfl fl0_29_0.r (al 11 rfl hn) (wk11 dy) (by decide) rfl (wc11_4 dy) (x := g 11 4) rfl ?_
  refine v_rng fun w1 => ?_
  have p2 : i3 (g 11 4) := rI w1 (q := 4) (al 11 rfl hn) (wk11 dy) rfl rfl
  refine v_iconst 67 rfl ?_
  refine v_isub 68 rfl ?_
  have c3 := h.1
  have h := h.2
  refine v_putI 69 rfl fl0_29_0 (al 11 rfl hn) (wk11 dy) (by decide) rfl (wc11_4 dy) c3 ?_
  refine v_iload 70 4 rfl rfl ?_
  have c4 := h.1
  have h := h.2
  refine v_if_eq 71 rfl (tgt := 127) rfl c4 (fun q5 => ?_) (fun q5 => ?_)
  · have h := h.1 q5
    refine v_aload_n 74 0 rfl rfl rfl ?_
    refine v_gK 75 rfl fl0_17_0.r (al 11 rfl hn) (wk11 dy) (by decide) rfl (r := 13) (wc11_1 dy) ?_
    refine v_iload_n 76 3 rfl rfl rfl ?_
    refine v_dup2 77 rfl (by intro h; cases h) (by intro h; cases h) ?_
    have c6 := h.1
    have h := h.2
    refine v_ia (N := 60) 78 rfl (al 13 rfl hn) (wk13 dy) (wn13 dy) (by decide) c6 (y := g 13 x3.toNat) rfl ?_
    refine v_rng fun w7 => ?_
    have p8 : i3 (g 13 x3.toNat) := rI w7 (q := x3.toNat) (al 13 rfl hn) (wk13 dy) rfl rfl
    refine v_iconst 79 rfl ?_
    refine v_isub 80 rfl ?_
    have c9 := h.1
    have h := h.2
    refine v_iast (N := 60) 81 rfl (al 13 rfl hn) (wk13 dy) (wn13 dy) (by decide) c6 c9 ?_
    refine v_iinc 82 3 [1, 2, 3, 0, 4] rfl rfl (by decide) rfl ?_
    refine v_goto 83 rfl (tgt := 31) rfl ?_
    refine v_loc [0, 1, 2, 3] rfl ?_
    exact h
  · have h := h.2 q5
    refine v_iload 72 4 rfl rfl ?_
    exact v_ret (v := some (I_ xs0)) 73 rfl (Nat.zero_le _) (Nat.zero_le _) trivial rfl h
theorem wX0_lengthen {d n : Nat} {dy : Nat → Shp} {g : Hp} {P : Pst} {x1 : Int} {x2 : Int} (hn : 100 ≤ n) (h : (i3 x2) ∧ ((x2 ≤ 0) → ((x2 ≤ 0) → Runs miX0_look d [.ref 11] n (W0 dy) g (fun v n' S' g' => V miX0_lengthen (d + 1) 28 [(0, .ref 11), (1, I_ x1), (2, I_ x2)] (v.toList ++ []) n' S' g' 0 0 P)) ∧ ((0 < x2) → V miX0_lengthen (d + 1) 28 [(0, .ref 11), (1, I_ x1), (2, I_ x2)] [I_ 0] n (W0 dy) g 0 0 P)) ∧ ((0 < x2) → (((g 11 4) < 5) → V miX0_lengthen (d + 1) 31 [(0, .ref 11), (1, I_ x1), (2, I_ x2), (3, I_ x1)] [] n (W0 dy) g 0 0 P) ∧ ((5 ≤ (g 11 4)) → ((x2 ≤ 0) → Runs miX0_look d [.ref 11] n (W0 dy) g (fun v n' S' g' => V miX0_lengthen (d + 1) 28 [(0, .ref 11), (1, I_ x1), (2, I_ x2)] (v.toList ++ []) n' S' g' 0 0 P)) ∧ ((0 < x2) → V miX0_lengthen (d + 1) 28 [(0, .ref 11), (1, I_ x1), (2, I_ x2)] [I_ 0] n (W0 dy) g 0 0 P)))) : Runs miX0_lengthen (d + 1) [.ref 11, I_ x1, I_ x2] n (W0 dy) g P := Runs.of rfl rfl deX0_lengthen (Nat.le_of_ble_eq_true rfl) (bX0_lengthen_0 hn h)
theorem lv0_74_look_0 : LkV miX0_look miX0_doMeet 74 1 0 := ⟨⟨⟨tbG_in (List.mem_append_right _ (List.mem_of_getElem? (i := 866) (by decide +kernel))) rfl, tbG_in (List.mem_append_right _ (List.mem_of_getElem? (i := 5) (by decide +kernel))) rfl, tbG_in (List.mem_append_right _ (List.mem_of_getElem? (i := 863) (by decide +kernel))) rfl⟩, ⟨by decide +kernel, by decide +kernel, by decide +kernel⟩, by decide⟩, tbG_in (List.mem_append_right _ (List.mem_of_getElem? (i := 865) (by decide +kernel))) rfl, RX0, TX0, 11, rfl, tbG_in (List.mem_append_left _ (List.mem_of_getElem? (i := 25) (by decide +kernel))) rfl⟩
set_option maxHeartbeats 8000000 in
set_option maxRecDepth 4000 in
theorem bX0_look_0 {d n : Nat} {dy : Nat → Shp} {g : Hp} {P : Pst}  (hn : 100 ≤ n) (h : (((g 11 10) < 20000) → (i3 ((g 11 10) + 1)) ∧ V miX0_look (d + 1) 27 [(0, .ref 11), (1, I_ (g 11 9))] [] n (W0 dy) (up2 g 11 10 ((g 11 10) + 1)) 0 0 P) ∧ ((20000 ≤ (g 11 10)) → P (some (I_ 2)) n (W0 dy) g)) : V miX0_look (d + 1) 0 [(0, .ref 11)] [] n (W0 dy) g 0 0 P := by
  refine v_aload_n 0 0 rfl rfl rfl ?_
  refine v_gI 1 rfl fl0_47_0.r (al 11 rfl hn) (wk11 dy) (by decide) rfl (wc11_10 dy) (x := g 11 10) rfl ?_
  refine v_rng fun w1 => ?_
  have p2 : i3 (g 11 10) := rI w1 (q := 10) (al 11 rfl hn) (wk11 dy) rfl rfl
  refine v_sipush 2 rfl (by decide) ?_
  refine v_icmp_lt 3 rfl (tgt := 12) rfl p2 (by decide) (fun q3 => ?_) (fun q3 => ?_)
  · have h := h.1 q3
    refine v_aload_n 6 0 rfl rfl rfl ?_
    refine v_dup 7 rfl (by intro h; cases h) ?_
    refine v_gI 8 rfl fl0_47_0.r (al 11 rfl hn) (wk11 dy) (by decide) rfl (wc11_10 dy) (x := g 11 10) rfl ?_
    refine v_rng fun w4 => ?_
    have p5 : i3 (g 11 10) := rI w4 (q := 10) (al 11 rfl hn) (wk11 dy) rfl rfl
    refine v_iconst 9 rfl ?_
    refine v_iadd 10 rfl ?_
    have c6 := h.1
    have h := h.2
    refine v_putI 11 rfl fl0_47_0 (al 11 rfl hn) (wk11 dy) (by decide) rfl (wc11_10 dy) c6 ?_
    refine v_aload_n 12 0 rfl rfl rfl ?_
    refine v_gI 13 rfl fl0_44_0.r (al 11 rfl hn) (wk11 dy) (by decide) rfl (wc11_9 dy) (x := g 11 9) rfl ?_
    refine v_rng fun w7 => ?_
    have p8 : i3 (g 11 9) := rI w7 (q := 9) (al 11 rfl hn) (wk11 dy) rfl rfl
    refine v_istore_n 14 [1, 0] rfl rfl (by decide) rfl ?_
    exact h
  · have h := h.2 q3
    refine v_iconst 4 rfl ?_
    exact v_ret (v := some (I_ 2)) 5 rfl (Nat.zero_le _) (Nat.zero_le _) trivial rfl h
set_option maxHeartbeats 8000000 in
set_option maxRecDepth 4000 in
theorem bX0_look_27 {d n : Nat} {dy : Nat → Shp} {g : Hp} {P : Pst} {x1 : Int} (hn : 100 ≤ n) (h : (i3 x1) ∧ (((g 11 8) ≤ x1) → V miX0_look (d + 1) 58 [(0, .ref 11), (1, I_ 0)] [] n (W0 dy) g 0 0 P) ∧ ((x1 < (g 11 8)) → Runs miX0_doMeet d [.ref 11, I_ x1] n (W0 dy) g (fun v n' S' g' => V miX0_look (d + 1) 40 [(0, .ref 11), (1, I_ x1)] (v.toList ++ []) n' S' g' 0 0 P))) : V miX0_look (d + 1) 27 [(0, .ref 11), (1, I_ x1)] [] n (W0 dy) g 0 0 P := by
  refine v_iload_n 15 1 rfl rfl rfl ?_
  refine v_aload_n 16 0 rfl rfl rfl ?_
  refine v_gI 17 rfl fl0_41_0.r (al 11 rfl hn) (wk11 dy) (by decide) rfl (wc11_8 dy) (x := g 11 8) rfl ?_
  refine v_rng fun w1 => ?_
  have p2 : i3 (g 11 8) := rI w1 (q := 8) (al 11 rfl hn) (wk11 dy) rfl rfl
  have c3 := h.1
  have h := h.2
  refine v_icmp_ge 18 rfl (tgt := 56) rfl c3 p2 (fun q4 => ?_) (fun q4 => ?_)
  · have h := h.1 q4
    refine v_iconst 30 rfl ?_
    refine v_istore_n 31 [1, 0] rfl rfl (by decide) rfl ?_
    exact h
  · have h := h.2 q4
    refine v_aload_n 19 0 rfl rfl rfl ?_
    refine v_iload_n 20 1 rfl rfl rfl ?_
    refine v_callV (st := []) [I_ x1] 21 rfl lv0_74_look_0 (al 11 rfl hn) (wk11 dy) (by decide) rfl (Nat.le_refl _) (Nat.le_refl _) ?_
    exact h
set_option maxHeartbeats 8000000 in
set_option maxRecDepth 4000 in
theorem bX0_look_40 {d n : Nat} {dy : Nat → Shp} {g : Hp} {P : Pst} {x1 : Int} {xs0 : Int} (hn : 100 ≤ n) (h : (i3 xs0) ∧ ((xs0 = 0) → V miX0_look (d + 1) 27 [(0, .ref 11), (1, I_ (x1 + 1))] [] n (W0 dy) g 0 0 P) ∧ ((xs0 ≠ 0) → (i3 x1) ∧ P (some (I_ 0)) n (W0 dy) (up2 g 11 9 x1))) : V miX0_look (d + 1) 40 [(0, .ref 11), (1, I_ x1)] [I_ xs0] n (W0 dy) g 0 0 P := by
  have c1 := h.1
  have h := h.2
  refine v_if_eq 22 rfl (tgt := 50) rfl c1 (fun q2 => ?_) (fun q2 => ?_)
  · have h := h.1 q2
    refine v_iinc 28 1 [1, 0] rfl rfl (by decide) rfl ?_
    refine v_goto 29 rfl (tgt := 27) rfl ?_
    exact h
  · have h := h.2 q2
    refine v_aload_n 23 0 rfl rfl rfl ?_
    refine v_iload_n 24 1 rfl rfl rfl ?_
    have c3 := h.1
    have h := h.2
    refine v_putI 25 rfl fl0_44_0 (al 11 rfl hn) (wk11 dy) (by decide) rfl (wc11_9 dy) c3 ?_
    refine v_iconst 26 rfl ?_
    exact v_ret (v := some (I_ 0)) 27 rfl (Nat.zero_le _) (Nat.zero_le _) trivial rfl h
set_option maxHeartbeats 8000000 in
set_option maxRecDepth 4000 in
theorem bX0_look_58 {d n : Nat} {dy : Nat → Shp} {g : Hp} {P : Pst} {x1 : Int} (hn : 100 ≤ n) (h : (i3 x1) ∧ (((g 11 9) ≤ x1) → P (some (I_ 1)) n (W0 dy) g) ∧ ((x1 < (g 11 9)) → (((g 11 8) ≤ x1) → P (some (I_ 1)) n (W0 dy) g) ∧ ((x1 < (g 11 8)) → Runs miX0_doMeet d [.ref 11, I_ x1] n (W0 dy) g (fun v n' S' g' => V miX0_look (d + 1) 79 [(0, .ref 11), (1, I_ x1)] (v.toList ++ []) n' S' g' 0 0 P)))) : V miX0_look (d + 1) 58 [(0, .ref 11), (1, I_ x1)] [] n (W0 dy) g 0 0 P := by
  refine v_iload_n 32 1 rfl rfl rfl ?_
  refine v_aload_n 33 0 rfl rfl rfl ?_
  refine v_gI 34 rfl fl0_44_0.r (al 11 rfl hn) (wk11 dy) (by decide) rfl (wc11_9 dy) (x := g 11 9) rfl ?_
  refine v_rng fun w1 => ?_
  have p2 : i3 (g 11 9) := rI w1 (q := 9) (al 11 rfl hn) (wk11 dy) rfl rfl
  have c3 := h.1
  have h := h.2
  refine v_icmp_ge 35 rfl (tgt := 95) rfl c3 p2 (fun q4 => ?_) (fun q4 => ?_)
  · have h := h.1 q4
    refine v_iconst 51 rfl ?_
    exact v_ret (v := some (I_ 1)) 52 rfl (Nat.zero_le _) (Nat.zero_le _) trivial rfl h
  · have h := h.2 q4
    refine v_iload_n 36 1 rfl rfl rfl ?_
    refine v_aload_n 37 0 rfl rfl rfl ?_
    refine v_gI 38 rfl fl0_41_0.r (al 11 rfl hn) (wk11 dy) (by decide) rfl (wc11_8 dy) (x := g 11 8) rfl ?_
    refine v_rng fun w5 => ?_
    have p6 : i3 (g 11 8) := rI w5 (q := 8) (al 11 rfl hn) (wk11 dy) rfl rfl
    refine v_icmp_ge 39 rfl (tgt := 95) rfl c3 p6 (fun q7 => ?_) (fun q7 => ?_)
    · have h := h.1 q7
      refine v_iconst 51 rfl ?_
      exact v_ret (v := some (I_ 1)) 52 rfl (Nat.zero_le _) (Nat.zero_le _) trivial rfl h
    · have h := h.2 q7
      refine v_aload_n 40 0 rfl rfl rfl ?_
      refine v_iload_n 41 1 rfl rfl rfl ?_
      refine v_callV (st := []) [I_ x1] 42 rfl lv0_74_look_0 (al 11 rfl hn) (wk11 dy) (by decide) rfl (Nat.le_refl _) (Nat.le_refl _) ?_
      exact h
set_option maxHeartbeats 8000000 in
set_option maxRecDepth 4000 in
theorem bX0_look_79 {d n : Nat} {dy : Nat → Shp} {g : Hp} {P : Pst} {x1 : Int} {xs0 : Int} (hn : 100 ≤ n) (h : (i3 xs0) ∧ ((xs0 = 0) → V miX0_look (d + 1) 58 [(0, .ref 11), (1, I_ (x1 + 1))] [] n (W0 dy) g 0 0 P) ∧ ((xs0 ≠ 0) → (i3 x1) ∧ P (some (I_ 0)) n (W0 dy) (up2 g 11 9 x1))) : V miX0_look (d + 1) 79 [(0, .ref 11), (1, I_ x1)] [I_ xs0] n (W0 dy) g 0 0 P := by
  have c1 := h.1
  have h := h.2
  refine v_if_eq 43 rfl (tgt := 89) rfl c1 (fun q2 => ?_) (fun q2 => ?_)
  · have h := h.1 q2
    refine v_iinc 49 1 [1, 0] rfl rfl (by decide) rfl ?_
    refine v_goto 50 rfl (tgt := 58) rfl ?_
    exact h
  · have h := h.2 q2
    refine v_aload_n 44 0 rfl rfl rfl ?_
    refine v_iload_n 45 1 rfl rfl rfl ?_
    have c3 := h.1
    have h := h.2
    refine v_putI 46 rfl fl0_44_0 (al 11 rfl hn) (wk11 dy) (by decide) rfl (wc11_9 dy) c3 ?_
    refine v_iconst 47 rfl ?_
    exact v_ret (v := some (I_ 0)) 48 rfl (Nat.zero_le _) (Nat.zero_le _) trivial rfl h
theorem wX0_look {d n : Nat} {dy : Nat → Shp} {g : Hp} {P : Pst}  (hn : 100 ≤ n) (h : (((g 11 10) < 20000) → (i3 ((g 11 10) + 1)) ∧ V miX0_look (d + 1) 27 [(0, .ref 11), (1, I_ (g 11 9))] [] n (W0 dy) (up2 g 11 10 ((g 11 10) + 1)) 0 0 P) ∧ ((20000 ≤ (g 11 10)) → P (some (I_ 2)) n (W0 dy) g)) : Runs miX0_look (d + 1) [.ref 11] n (W0 dy) g P := Runs.of rfl rfl deX0_look (Nat.le_of_ble_eq_true rfl) (bX0_look_0 hn h)
set_option maxHeartbeats 8000000 in
set_option maxRecDepth 4000 in
theorem bX0_doMeet_0 {d n : Nat} {dy : Nat → Shp} {g : Hp} {P : Pst} {x1 : Int} (hn : 100 ≤ n) (h : (0 ≤ x1 ∧ x1 < 435) ∧ V miX0_doMeet d 9 [(0, .ref 11), (1, I_ x1), (2, I_ (g 17 x1.toNat)), (3, I_ 0)] [] n (W0 dy) g 0 0 P) : V miX0_doMeet d 0 [(0, .ref 11), (1, I_ x1)] [] n (W0 dy) g 0 0 P := by
  refine v_aload_n 0 0 rfl rfl rfl ?_
  refine v_gK 1 rfl fl0_38_0.r (al 11 rfl hn) (wk11 dy) (by decide) rfl (r := 17) (wc11_7 dy) ?_
  refine v_iload_n 2 1 rfl rfl rfl ?_
  have c1 := h.1
  have h := h.2
  refine v_ia (N := 435) 3 rfl (al 17 rfl hn) (wk17 dy) (wn17 dy) (by decide) c1 (y := g 17 x1.toNat) rfl ?_
  refine v_rng fun w2 => ?_
  have p3 : i3 (g 17 x1.toNat) := rI w2 (q := x1.toNat) (al 17 rfl hn) (wk17 dy) rfl rfl
  refine v_istore_n 4 [1, 2, 0] rfl rfl (by decide) rfl ?_
  refine v_iconst 5 rfl ?_
  refine v_istore_n 6 [1, 2, 3, 0] rfl rfl (by decide) rfl ?_
  exact h
set_option maxHeartbeats 8000000 in
set_option maxRecDepth 4000 in
theorem bX0_doMeet_9 {d n : Nat} {dy : Nat → Shp} {g : Hp} {P : Pst} {x1 : Int} {x2 : Int} {x3 : Int} (hn : 100 ≤ n) (h : (i3 x3) ∧ (((g 11 4) ≤ x3) → (i3 x2) ∧ ((x2 ≠ 0) → P (some (I_ 0)) n (W0 dy) g) ∧ ((x2 = 0) → P (some (I_ 1)) n (W0 dy) g)) ∧ ((x3 < (g 11 4)) → (0 ≤ x1 ∧ x1 < 435) ∧ (0 ≤ x3 ∧ x3 < 5) ∧ (((and6 (g 15 x1.toNat) (g 14 x3.toNat)) = 0) → (((and6 (g 16 x1.toNat) (g 14 x3.toNat)) = 0) → V miX0_doMeet d 9 [(0, .ref 11), (1, I_ x1), (2, I_ x2), (3, I_ (x3 + 1))] [] n (W0 dy) g 0 0 P) ∧ (((and6 (g 16 x1.toNat) (g 14 x3.toNat)) ≠ 0) → V miX0_doMeet d 9 [(0, .ref 11), (1, I_ x1), (2, I_ (x2 + (-1))), (3, I_ (x3 + 1))] [] n (W0 dy) g 0 0 P)) ∧ (((and6 (g 15 x1.toNat) (g 14 x3.toNat)) ≠ 0) → V miX0_doMeet d 9 [(0, .ref 11), (1, I_ x1), (2, I_ (x2 + 1)), (3, I_ (x3 + 1))] [] n (W0 dy) g 0 0 P))) : V miX0_doMeet d 9 [(0, .ref 11), (1, I_ x1), (2, I_ x2), (3, I_ x3)] [] n (W0 dy) g 0 0 P := by
  refine v_iload_n 7 3 rfl rfl rfl ?_
  refine v_aload_n 8 0 rfl rfl rfl ?_
  refine v_gI 9 rfl fl0_29_0.r (al 11 rfl hn) (wk11 dy) (by decide) rfl (wc11_4 dy) (x := g 11 4) rfl ?_
  refine v_rng fun w1 => ?_
  have p2 : i3 (g 11 4) := rI w1 (q := 4) (al 11 rfl hn) (wk11 dy) rfl rfl
  have c3 := h.1
  have h := h.2
  refine v_icmp_ge 10 rfl (tgt := 68) rfl c3 p2 (fun q4 => ?_) (fun q4 => ?_)
  · have h := h.1 q4
    refine v_iload_n 40 2 rfl rfl rfl ?_
    have c5 := h.1
    have h := h.2
    refine v_if_ne 41 rfl (tgt := 76) rfl c5 (fun q6 => ?_) (fun q6 => ?_)
    · have h := h.1 q6
      refine v_iconst 44 rfl ?_
      exact v_ret (v := some (I_ 0)) 45 rfl (Nat.zero_le _) (Nat.zero_le _) (Or.inl rfl) rfl h
    · have h := h.2 q6
      refine v_iconst 42 rfl ?_
      refine v_goto 43 rfl (tgt := 77) rfl ?_
      exact v_ret (v := some (I_ 1)) 45 rfl (Nat.zero_le _) (Nat.zero_le _) (Or.inr rfl) rfl h
  · have h := h.2 q4
    refine v_aload_n 11 0 rfl rfl rfl ?_
    refine v_gK 12 rfl fl0_32_0.r (al 11 rfl hn) (wk11 dy) (by decide) rfl (r := 15) (wc11_5 dy) ?_
    refine v_iload_n 13 1 rfl rfl rfl ?_
    have c7 := h.1
    have h := h.2
    refine v_la (N := 435) 14 rfl (al 15 rfl hn) (wk15 dy) (wn15 dy) (by decide) c7 (y := g 15 x1.toNat) rfl ?_
    refine v_rng fun w8 => ?_
    have p9 : i6 (g 15 x1.toNat) := rL w8 (q := x1.toNat) (al 15 rfl hn) (wk15 dy) rfl rfl
    refine v_aload_n 15 0 rfl rfl rfl ?_
    refine v_gK 16 rfl fl0_25_0.r (al 11 rfl hn) (wk11 dy) (by decide) rfl (r := 14) (wc11_3 dy) ?_
    refine v_iload_n 17 3 rfl rfl rfl ?_
    have c10 := h.1
    have h := h.2
    refine v_la (N := 5) 18 rfl (al 14 rfl hn) (wk14 dy) (wn14 dy) (by decide) c10 (y := g 14 x3.toNat) rfl ?_
    refine v_rng fun w11 => ?_
    have p12 : i6 (g 14 x3.toNat) := rL w11 (q := x3.toNat) (al 14 rfl hn) (wk14 dy) rfl rfl
    refine v_land 19 rfl ?_
    refine v_lconst (v := 0) 20 rfl (by decide) ?_
    refine v_lif_eq 21 rfl rfl (tgt := 41) rfl (and6_r _ _) (by decide) (fun q13 => ?_) (fun q13 => ?_)
    · have h := h.1 q13
      refine v_aload_n 25 0 rfl rfl rfl ?_
      refine v_gK 26 rfl fl0_35_0.r (al 11 rfl hn) (wk11 dy) (by decide) rfl (r := 16) (wc11_6 dy) ?_
      refine v_iload_n 27 1 rfl rfl rfl ?_
      refine v_la (N := 435) 28 rfl (al 16 rfl hn) (wk16 dy) (wn16 dy) (by decide) c7 (y := g 16 x1.toNat) rfl ?_
      refine v_rng fun w14 => ?_
      have p15 : i6 (g 16 x1.toNat) := rL w14 (q := x1.toNat) (al 16 rfl hn) (wk16 dy) rfl rfl
      refine v_aload_n 29 0 rfl rfl rfl ?_
      refine v_gK 30 rfl fl0_25_0.r (al 11 rfl hn) (wk11 dy) (by decide) rfl (r := 14) (wc11_3 dy) ?_
      refine v_iload_n 31 3 rfl rfl rfl ?_
      refine v_la (N := 5) 32 rfl (al 14 rfl hn) (wk14 dy) (wn14 dy) (by decide) c10 (y := g 14 x3.toNat) rfl ?_
      refine v_rng fun w16 => ?_
      have p17 : i6 (g 14 x3.toNat) := rL w16 (q := x3.toNat) (al 14 rfl hn) (wk14 dy) rfl rfl
      refine v_land 33 rfl ?_
      refine v_lconst (v := 0) 34 rfl (by decide) ?_
      refine v_lif_eq 35 rfl rfl (tgt := 62) rfl (and6_r _ _) (by decide) (fun q18 => ?_) (fun q18 => ?_)
      · have h := h.1 q18
        refine v_iinc 38 3 [1, 2, 3, 0] rfl rfl (by decide) rfl ?_
        refine v_goto 39 rfl (tgt := 9) rfl ?_
        exact h
      · have h := h.2 q18
        refine v_iinc 37 2 [1, 2, 0, 3] rfl rfl (by decide) rfl ?_
        refine v_iinc 38 3 [1, 2, 3, 0] rfl rfl (by decide) rfl ?_
        refine v_goto 39 rfl (tgt := 9) rfl ?_
        exact h
    · have h := h.2 q13
      refine v_iinc 23 2 [1, 2, 0, 3] rfl rfl (by decide) rfl ?_
      refine v_goto 24 rfl (tgt := 62) rfl ?_
      refine v_iinc 38 3 [1, 2, 3, 0] rfl rfl (by decide) rfl ?_
      refine v_goto 39 rfl (tgt := 9) rfl ?_
      exact h
theorem wX0_doMeet {d n : Nat} {dy : Nat → Shp} {g : Hp} {P : Pst} {x1 : Int} (hn : 100 ≤ n) (h : (0 ≤ x1 ∧ x1 < 435) ∧ V miX0_doMeet d 9 [(0, .ref 11), (1, I_ x1), (2, I_ (g 17 x1.toNat)), (3, I_ 0)] [] n (W0 dy) g 0 0 P) : Runs miX0_doMeet d [.ref 11, I_ x1] n (W0 dy) g P := Runs.of rfl rfl deX0_doMeet (Nat.le_of_ble_eq_true rfl) (bX0_doMeet_0 hn h)
set_option maxHeartbeats 8000000 in
set_option maxRecDepth 4000 in
theorem bX0_lengthenThreads_0 {d n : Nat} {dy : Nat → Shp} {g : Hp} {P : Pst}  (hn : 100 ≤ n) (h : V miX0_lengthenThreads d 2 [(0, .ref 11), (1, I_ 0)] [] n (W0 dy) g 0 0 P) : V miX0_lengthenThreads d 0 [(0, .ref 11)] [] n (W0 dy) g 0 0 P := by
  refine v_iconst 0 rfl ?_
  refine v_istore_n 1 [1, 0] rfl rfl (by decide) rfl ?_
  exact h
set_option maxHeartbeats 8000000 in
set_option maxRecDepth 4000 in
theorem bX0_lengthenThreads_2 {d n : Nat} {dy : Nat → Shp} {g : Hp} {P : Pst} {x1 : Int} (hn : 100 ≤ n) (h : (i3 x1) ∧ (((g 11 2) ≤ x1) → P none n (W0 dy) g) ∧ ((x1 < (g 11 2)) → (0 ≤ x1 ∧ x1 < 60) ∧ (Pt n (W0 dy) ((g 12 x1.toNat).toNat)) ∧ ∀ y11 : Int, y11 = (g ((g 12 x1.toNat).toNat) 5) + (g 13 x1.toNat) → (i3 y11) ∧ V miX0_lengthenThreads d 2 [(0, .ref 11), (1, I_ (x1 + 1))] [] n (W0 dy) (up2 g ((g 12 x1.toNat).toNat) 5 y11) 0 0 P)) : V miX0_lengthenThreads d 2 [(0, .ref 11), (1, I_ x1)] [] n (W0 dy) g 0 0 P := by
  refine v_iload_n 2 1 rfl rfl rfl ?_
  refine v_aload_n 3 0 rfl rfl rfl ?_
  refine v_gI 4 rfl fl0_21_0.r (al 11 rfl hn) (wk11 dy) (by decide) rfl (wc11_2 dy) (x := g 11 2) rfl ?_
  refine v_rng fun w1 => ?_
  have p2 : i3 (g 11 2) := rI w1 (q := 2) (al 11 rfl hn) (wk11 dy) rfl rfl
  have c3 := h.1
  have h := h.2
  refine v_icmp_ge 5 rfl (tgt := 36) rfl c3 p2 (fun q4 => ?_) (fun q4 => ?_)
  · have h := h.1 q4
    exact v_ret (v := none) 20 rfl (Nat.zero_le _) (Nat.zero_le _) trivial rfl h
  · have h := h.2 q4
    refine v_aload_n 6 0 rfl rfl rfl ?_
    refine v_gK 7 rfl fl0_11_0.r (al 11 rfl hn) (wk11 dy) (by decide) rfl (r := 12) (wc11_0 dy) ?_
    refine v_iload_n 8 1 rfl rfl rfl ?_
    have c5 := h.1
    have h := h.2
    refine v_pa (N := 60) 9 rfl (al 12 rfl hn) (wk12 dy) (wn12 dy) (by decide) c5 (y := g 12 x1.toNat) rfl ?_
    refine v_dup 10 rfl (by intro h; cases h) ?_
    have c6 := h.1
    have h := h.2
    refine v_pI 11 rfl ⟨fl0_50_3.r, fl0_50_5.r, fl0_50_9.r⟩ c6 ⟨rfl, rfl, rfl⟩ (x := g ((g 12 x1.toNat).toNat) 5) rfl ?_
    refine v_rng fun w7 => ?_
    have p8 : i3 (g ((g 12 x1.toNat).toNat) 5) := rPI w7 (q := 5) c6 rfl rfl rfl rfl
    refine v_aload_n 12 0 rfl rfl rfl ?_
    refine v_gK 13 rfl fl0_17_0.r (al 11 rfl hn) (wk11 dy) (by decide) rfl (r := 13) (wc11_1 dy) ?_
    refine v_iload_n 14 1 rfl rfl rfl ?_
    refine v_ia (N := 60) 15 rfl (al 13 rfl hn) (wk13 dy) (wn13 dy) (by decide) c5 (y := g 13 x1.toNat) rfl ?_
    refine v_rng fun w9 => ?_
    have p10 : i3 (g 13 x1.toNat) := rI w9 (q := x1.toNat) (al 13 rfl hn) (wk13 dy) rfl rfl
    refine v_iadd 16 rfl ?_
    refine v_nmI (fun y11 ey11 => ?_)
    have h := h y11 ey11
    have c12 := h.1
    have h := h.2
    refine v_qI 17 rfl ⟨fl0_50_3, fl0_50_5, fl0_50_9⟩ c6 ⟨rfl, rfl, rfl⟩ c12 ?_
    refine v_iinc 18 1 [1, 0] rfl rfl (by decide) rfl ?_
    refine v_goto 19 rfl (tgt := 2) rfl ?_
    exact h
theorem wX0_lengthenThreads {d n : Nat} {dy : Nat → Shp} {g : Hp} {P : Pst}  (hn : 100 ≤ n) (h : V miX0_lengthenThreads d 2 [(0, .ref 11), (1, I_ 0)] [] n (W0 dy) g 0 0 P) : Runs miX0_lengthenThreads d [.ref 11] n (W0 dy) g P := Runs.of rfl rfl deX0_lengthenThreads (Nat.le_of_ble_eq_true rfl) (bX0_lengthenThreads_0 hn h)
theorem fl1_17_1 : FL RX1 17 1 1 false .int := ⟨RX1, TX1, 3, "MobileMaker$Mobile", rfl, rfl, by decide, kf1, tbG_in (List.mem_append_right _ (List.mem_of_getElem? (i := 43) (by decide +kernel))) rfl, Or.inl rfl, rfl, by decide +kernel, ⟨tyX1, tyX1_ok⟩, nmX1, fun h => by cases h⟩
theorem fl1_21_1 : FL RX1 21 1 2 false .long := ⟨RX1, TX1, 3, "MobileMaker$Mobile", rfl, rfl, by decide, kf1, tbG_in (List.mem_append_right _ (List.mem_of_getElem? (i := 45) (by decide +kernel))) rfl, Or.inl rfl, rfl, by decide +kernel, ⟨tyX1, tyX1_ok⟩, nmX1, fun h => by cases h⟩
theorem fl1_11_1 : FL RX1 11 1 0 true (.array (.object "MobileMaker$Part")) := ⟨RX1, TX1, 3, "MobileMaker$Mobile", rfl, rfl, by decide, kf1, tbG_in (List.mem_append_right _ (List.mem_of_getElem? (i := 41) (by decide +kernel))) rfl, Or.inl rfl, rfl, by decide +kernel, ⟨tyX1, tyX1_ok⟩, nmX1, fun _ => rfl⟩
theorem fl1_31_5 : FL RX1 31 5 14 false (.object "MobileMaker$Part") := ⟨RX6, TX6, 16, "MobileMaker$Rod", rfl, rfl, by decide, kf5, tbG_in (List.mem_append_right _ (List.mem_of_getElem? (i := 459) (by decide +kernel))) rfl, Or.inl rfl, rfl, by decide +kernel, ⟨tyX6, tyX6_ok⟩, nmX6, fun h => by cases h⟩
theorem fl1_35_5 : FL RX1 35 5 7 false .int := ⟨RX6, TX6, 16, "MobileMaker$Rod", rfl, rfl, by decide, kf5, tbG_in (List.mem_append_right _ (List.mem_of_getElem? (i := 391) (by decide +kernel))) rfl, Or.inr (tbG_in (List.mem_append_right _ (List.mem_of_getElem? (i := 392) (by decide +kernel))) rfl), rfl, by decide +kernel, ⟨tyX6, tyX6_ok⟩, nmX6, fun h => by cases h⟩
theorem fl1_38_5 : FL RX1 38 5 6 false .long := ⟨RX6, TX6, 16, "MobileMaker$Rod", rfl, rfl, by decide, kf5, tbG_in (List.mem_append_right _ (List.mem_of_getElem? (i := 385) (by decide +kernel))) rfl, Or.inr (tbG_in (List.mem_append_right _ (List.mem_of_getElem? (i := 386) (by decide +kernel))) rfl), rfl, by decide +kernel, ⟨tyX6, tyX6_ok⟩, nmX6, fun h => by cases h⟩
theorem fl1_41_5 : FL RX1 41 5 15 false (.object "MobileMaker$Part") := ⟨RX6, TX6, 16, "MobileMaker$Rod", rfl, rfl, by decide, kf5, tbG_in (List.mem_append_right _ (List.mem_of_getElem? (i := 464) (by decide +kernel))) rfl, Or.inl rfl, rfl, by decide +kernel, ⟨tyX6, tyX6_ok⟩, nmX6, fun h => by cases h⟩
theorem fl1_44_3 : FL RX1 44 3 3 false (.object "MobileMaker$Rod") := ⟨RX4, TX4, 14, "MobileMaker$Part", rfl, rfl, by decide, kf3, tbG_in (List.mem_append_right _ (List.mem_of_getElem? (i := 367) (by decide +kernel))) rfl, Or.inl rfl, rfl, by decide +kernel, ⟨tyX4, tyX4_ok⟩, nmX4, fun h => by cases h⟩
theorem fl1_44_5 : FL RX1 44 5 3 false (.object "MobileMaker$Rod") := ⟨RX6, TX6, 16, "MobileMaker$Part", rfl, rfl, by decide, kf5, tbG_in (List.mem_append_right _ (List.mem_of_getElem? (i := 367) (by decide +kernel))) rfl, Or.inl rfl, rfl, by decide +kernel, ⟨tyX6, tyX6_ok⟩, nmX6, fun h => by cases h⟩
theorem fl1_44_9 : FL RX1 44 9 3 false (.object "MobileMaker$Rod") := ⟨RX10, TX10, 10, "MobileMaker$Part", rfl, rfl, by decide, kf9, tbG_in (List.mem_append_right _ (List.mem_of_getElem? (i := 367) (by decide +kernel))) rfl, Or.inl rfl, rfl, by decide +kernel, ⟨tyX10, tyX10_ok⟩, nmX10, fun h => by cases h⟩
theorem fl1_48_5 : FL RX1 48 5 8 false .long := ⟨RX6, TX6, 16, "MobileMaker$Rod", rfl, rfl, by decide, kf5, tbG_in (List.mem_append_right _ (List.mem_of_getElem? (i := 397) (by decide +kernel))) rfl, Or.inr (tbG_in (List.mem_append_right _ (List.mem_of_getElem? (i := 398) (by decide +kernel))) rfl), rfl, by decide +kernel, ⟨tyX6, tyX6_ok⟩, nmX6, fun h => by cases h⟩
theorem fl1_51_3 : FL RX1 51 3 8 false .long := ⟨RX4, TX4, 14, "MobileMaker$Part", rfl, rfl, by decide, kf3, tbG_in (List.mem_append_right _ (List.mem_of_getElem? (i := 399) (by decide +kernel))) rfl, Or.inl rfl, rfl, by decide +kernel, ⟨tyX4, tyX4_ok⟩, nmX4, fun h => by cases h⟩
theorem fl1_51_5 : FL RX1 51 5 8 false .long := ⟨RX6, TX6, 16, "MobileMaker$Part", rfl, rfl, by decide, kf5, tbG_in (List.mem_append_right _ (List.mem_of_getElem? (i := 399) (by decide +kernel))) rfl, Or.inl rfl, rfl, by decide +kernel, ⟨tyX6, tyX6_ok⟩, nmX6, fun h => by cases h⟩
theorem fl1_51_9 : FL RX1 51 9 8 false .long := ⟨RX10, TX10, 10, "MobileMaker$Part", rfl, rfl, by decide, kf9, tbG_in (List.mem_append_right _ (List.mem_of_getElem? (i := 399) (by decide +kernel))) rfl, Or.inl rfl, rfl, by decide +kernel, ⟨tyX10, tyX10_ok⟩, nmX10, fun h => by cases h⟩
theorem fl1_52_5 : FL RX1 52 5 9 false .long := ⟨RX6, TX6, 16, "MobileMaker$Rod", rfl, rfl, by decide, kf5, tbG_in (List.mem_append_right _ (List.mem_of_getElem? (i := 403) (by decide +kernel))) rfl, Or.inr (tbG_in (List.mem_append_right _ (List.mem_of_getElem? (i := 404) (by decide +kernel))) rfl), rfl, by decide +kernel, ⟨tyX6, tyX6_ok⟩, nmX6, fun h => by cases h⟩
theorem fl1_55_3 : FL RX1 55 3 9 false .long := ⟨RX4, TX4, 14, "MobileMaker$Part", rfl, rfl, by decide, kf3, tbG_in (List.mem_append_right _ (List.mem_of_getElem? (i := 405) (by decide +kernel))) rfl, Or.inl rfl, rfl, by decide +kernel, ⟨tyX4, tyX4_ok⟩, nmX4, fun h => by cases h⟩
theorem fl1_55_5 : FL RX1 55 5 9 false .long := ⟨RX6, TX6, 16, "MobileMaker$Part", rfl, rfl, by decide, kf5, tbG_in (List.mem_append_right _ (List.mem_of_getElem? (i := 405) (by decide +kernel))) rfl, Or.inl rfl, rfl, by decide +kernel, ⟨tyX6, tyX6_ok⟩, nmX6, fun h => by cases h⟩
theorem fl1_55_9 : FL RX1 55 9 9 false .long := ⟨RX10, TX10, 10, "MobileMaker$Part", rfl, rfl, by decide, kf9, tbG_in (List.mem_append_right _ (List.mem_of_getElem? (i := 405) (by decide +kernel))) rfl, Or.inl rfl, rfl, by decide +kernel, ⟨tyX10, tyX10_ok⟩, nmX10, fun h => by cases h⟩
theorem lv1_25_gather_1 : LkV miX1_gather miX1_add 25 3 1 := ⟨⟨⟨tbG_in (List.mem_append_right _ (List.mem_of_getElem? (i := 686) (by decide +kernel))) rfl, tbG_in (List.mem_append_right _ (List.mem_of_getElem? (i := 2) (by decide +kernel))) rfl, tbG_in (List.mem_append_right _ (List.mem_of_getElem? (i := 683) (by decide +kernel))) rfl⟩, ⟨by decide +kernel, by decide +kernel, by decide +kernel⟩, by decide⟩, tbG_in (List.mem_append_right _ (List.mem_of_getElem? (i := 685) (by decide +kernel))) rfl, RX1, TX1, 3, rfl, tbG_in (List.mem_append_left _ (List.mem_of_getElem? (i := 15) (by decide +kernel))) rfl⟩
set_option maxHeartbeats 8000000 in
set_option maxRecDepth 4000 in
theorem bX1_gather_0 {d n : Nat} {dy : Nat → Shp} {g : Hp} {P : Pst} {r1 : Nat} (hn : 100 ≤ n) (h : Runs miX1_add d [.ref 4, .ref r1, I_ 0, L_ 0] n (W0 dy) (up2 (up2 g 4 1 0) 4 2 0) (fun v n' S' g' => V miX1_gather (d + 1) 17 [(0, .ref 4), (1, .ref r1)] (v.toList ++ []) n' S' g' 0 0 P)) : V miX1_gather (d + 1) 0 [(0, .ref 4), (1, .ref r1)] [] n (W0 dy) g 0 0 P := by
  refine v_aload_n 0 0 rfl rfl rfl ?_
  refine v_iconst 1 rfl ?_
  refine v_putI 2 rfl fl1_17_1 (al 4 rfl hn) (wk4 dy) (by decide) rfl (wc4_1 dy) (by decide) ?_
  refine v_aload_n 3 0 rfl rfl rfl ?_
  refine v_lconst (v := 0) 4 rfl (by decide) ?_
  refine v_putL 5 rfl fl1_21_1 (al 4 rfl hn) (wk4 dy) (by decide) rfl (wc4_2 dy) (by decide) ?_
  refine v_aload_n 6 0 rfl rfl rfl ?_
  refine v_aload_n 7 1 rfl rfl rfl ?_
  refine v_iconst 8 rfl ?_
  refine v_lconst (v := 0) 9 rfl (by decide) ?_
  refine v_callV (st := []) [.ref r1, I_ 0, L_ 0] 10 rfl lv1_25_gather_1 (al 4 rfl hn) (wk4 dy) (by decide) rfl (Nat.le_refl _) (Nat.le_refl _) ?_
  exact h
set_option maxHeartbeats 8000000 in
set_option maxRecDepth 4000 in
theorem bX1_gather_17 {d n : Nat} {dy : Nat → Shp} {g : Hp} {P : Pst} {r1 : Nat} (hn : 100 ≤ n) (h : V miX1_gather (d + 1) 19 [(0, .ref 4), (1, .ref r1), (2, I_ 0)] [] n (W0 dy) g 0 0 P) : V miX1_gather (d + 1) 17 [(0, .ref 4), (1, .ref r1)] [] n (W0 dy) g 0 0 P := by
  refine v_iconst 11 rfl ?_
  refine v_istore_n 12 [1, 2, 0] rfl rfl (by decide) rfl ?_
  exact h
set_option maxHeartbeats 8000000 in
set_option maxRecDepth 4000 in
theorem bX1_gather_19 {d n : Nat} {dy : Nat → Shp} {g : Hp} {P : Pst} {r1 : Nat} {x2 : Int} (hn : 100 ≤ n) (h : (i3 x2) ∧ (((g 4 1) ≤ x2) → V miX1_gather (d + 1) 103 [(0, .ref 4), (1, .ref r1), (2, I_ ((g 4 1) - 1))] [] n (W0 dy) g 0 0 P) ∧ ((x2 < (g 4 1)) → ((60 ≤ x2) → V miX1_gather (d + 1) 103 [(0, .ref 4), (1, .ref r1), (2, I_ ((g 4 1) - 1))] [] n (W0 dy) g 0 0 P) ∧ ((x2 < 60) → (0 ≤ x2 ∧ x2 < 60) ∧ (((g 5 x2.toNat).toNat) = 0 ∨ Pt n (W0 dy) ((g 5 x2.toNat).toNat)) ∧ (((isK (W0 dy) ((g 5 x2.toNat).toNat) 5) = 0) → V miX1_gather (d + 1) 90 [(0, .ref 4), (1, .ref r1), (2, I_ x2), (4, .ref ((g 5 x2.toNat).toNat))] [] n (W0 dy) g 0 0 P) ∧ (((isK (W0 dy) ((g 5 x2.toNat).toNat) 5) ≠ 0) → (Ob n (W0 dy) ((g 5 x2.toNat).toNat) 5) ∧ Runs miX1_add d [.ref 4, .ref ((g ((g 5 x2.toNat).toNat) 14).toNat), I_ (g ((g 5 x2.toNat).toNat) 7), L_ (g ((g 5 x2.toNat).toNat) 6)] n (W0 dy) g (fun v n' S' g' => V miX1_gather (d + 1) 74 [(0, .ref 4), (1, .ref r1), (2, I_ x2), (3, .ref ((g 5 x2.toNat).toNat)), (4, .ref ((g 5 x2.toNat).toNat))] (v.toList ++ []) n' S' g' 0 0 P))))) : V miX1_gather (d + 1) 19 [(0, .ref 4), (1, .ref r1), (2, I_ x2)] [] n (W0 dy) g 0 0 P := by
  refine v_iload_n 13 2 rfl rfl rfl ?_
  refine v_aload_n 14 0 rfl rfl rfl ?_
  refine v_gI 15 rfl fl1_17_1.r (al 4 rfl hn) (wk4 dy) (by decide) rfl (wc4_1 dy) (x := g 4 1) rfl ?_
  refine v_rng fun w1 => ?_
  have p2 : i3 (g 4 1) := rI w1 (q := 1) (al 4 rfl hn) (wk4 dy) rfl rfl
  have c3 := h.1
  have h := h.2
  refine v_icmp_ge 16 rfl (tgt := 96) rfl c3 p2 (fun q4 => ?_) (fun q4 => ?_)
  · have h := h.1 q4
    refine v_aload_n 51 0 rfl rfl rfl ?_
    refine v_gI 52 rfl fl1_17_1.r (al 4 rfl hn) (wk4 dy) (by decide) rfl (wc4_1 dy) (x := g 4 1) rfl ?_
    refine v_rng fun w5 => ?_
    have p6 : i3 (g 4 1) := rI w5 (q := 1) (al 4 rfl hn) (wk4 dy) rfl rfl
    refine v_iconst 53 rfl ?_
    refine v_isub 54 rfl ?_
    refine v_istore_n 55 [1, 2, 0] rfl rfl (by decide) rfl ?_
    exact h
  · have h := h.2 q4
    refine v_iload_n 17 2 rfl rfl rfl ?_
    refine v_aload_n 18 0 rfl rfl rfl ?_
    refine v_gK 19 rfl fl1_11_1.r (al 4 rfl hn) (wk4 dy) (by decide) rfl (r := 5) (wc4_0 dy) ?_
    refine v_alen (N := 60) (t := 16) 20 rfl (al 5 rfl hn) (wk5 dy) (by decide) (fun _ => rfl) (wn5 dy) ?_
    refine v_icmp_ge 21 rfl (tgt := 96) rfl c3 (by decide) (fun q7 => ?_) (fun q7 => ?_)
    · have h := h.1 q7
      refine v_aload_n 51 0 rfl rfl rfl ?_
      refine v_gI 52 rfl fl1_17_1.r (al 4 rfl hn) (wk4 dy) (by decide) rfl (wc4_1 dy) (x := g 4 1) rfl ?_
      refine v_rng fun w8 => ?_
      have p9 : i3 (g 4 1) := rI w8 (q := 1) (al 4 rfl hn) (wk4 dy) rfl rfl
      refine v_iconst 53 rfl ?_
      refine v_isub 54 rfl ?_
      refine v_istore_n 55 [1, 2, 0] rfl rfl (by decide) rfl ?_
      exact h
    · have h := h.2 q7
      refine v_aload_n 22 0 rfl rfl rfl ?_
      refine v_gK 23 rfl fl1_11_1.r (al 4 rfl hn) (wk4 dy) (by decide) rfl (r := 5) (wc4_0 dy) ?_
      refine v_iload_n 24 2 rfl rfl rfl ?_
      have c10 := h.1
      have h := h.2
      refine v_pa (N := 60) 25 rfl (al 5 rfl hn) (wk5 dy) (wn5 dy) (by decide) c10 (y := g 5 x2.toNat) rfl ?_
      refine v_astore 26 [1, 2, 3, 0] rfl (by decide) rfl ?_
      refine v_aload 27 3 rfl rfl ?_
      have c11 := h.1
      have h := h.2
      refine v_instRod 28 rfl (tbG_in (List.mem_append_right _ (List.mem_of_getElem? (i := 694) (by decide +kernel))) rfl) c11 ?_
      refine v_if_eq 29 rfl (tgt := 90) rfl (isK_r _ _ _) (fun q12 => ?_) (fun q12 => ?_)
      · have h := h.1 q12
        exact h
      · have h := h.2 q12
        refine v_aload 30 3 rfl rfl ?_
        have c13 := h.1
        have h := h.2
        refine v_cast (ci := 5) 31 rfl (tbG_in (List.mem_append_right _ (List.mem_of_getElem? (i := 694) (by decide +kernel))) rfl) rfl (by decide) c13 ?_
        refine v_astore_n 32 [1, 2, 3, 0, 4] rfl rfl (by decide) rfl ?_
        refine v_aload_n 33 0 rfl rfl rfl ?_
        refine v_aload_n 34 3 rfl rfl rfl ?_
        refine v_gR 35 rfl fl1_31_5.r c13.1 c13.2.1 (by decide) rfl (c13.2.2 14) (x := g ((g 5 x2.toNat).toNat) 14) rfl ?_
        refine v_aload_n 36 3 rfl rfl rfl ?_
        refine v_gI 37 rfl fl1_35_5.r c13.1 c13.2.1 (by decide) rfl (c13.2.2 7) (x := g ((g 5 x2.toNat).toNat) 7) rfl ?_
        refine v_rng fun w14 => ?_
        have p15 : i3 (g ((g 5 x2.toNat).toNat) 7) := rI w14 (q := 7) c13.1 c13.2.1 rfl rfl
        refine v_aload_n 38 3 rfl rfl rfl ?_
        refine v_gL 39 rfl fl1_38_5.r c13.1 c13.2.1 (by decide) rfl (c13.2.2 6) (x := g ((g 5 x2.toNat).toNat) 6) rfl ?_
        refine v_rng fun w16 => ?_
        have p17 : i6 (g ((g 5 x2.toNat).toNat) 6) := rL w16 (q := 6) c13.1 c13.2.1 rfl rfl
        refine v_callV (st := []) [.ref ((g ((g 5 x2.toNat).toNat) 14).toNat), I_ (g ((g 5 x2.toNat).toNat) 7), L_ (g ((g 5 x2.toNat).toNat) 6)] 40 rfl lv1_25_gather_1 (al 4 rfl hn) (wk4 dy) (by decide) rfl (Nat.le_refl _) (Nat.le_refl _) ?_
        exact h
set_option maxHeartbeats 8000000 in
set_option maxRecDepth 4000 in
theorem bX1_gather_74 {d n : Nat} {dy : Nat → Shp} {g : Hp} {P : Pst} {r1 : Nat} {x2 : Int} {r3 : Nat} {r4 : Nat} (hn : 100 ≤ n) (h : (Ob n (W0 dy) r3 5) ∧ Runs miX1_add d [.ref 4, .ref ((g r3 15).toNat), I_ (g r3 7), L_ (g r3 6)] n (W0 dy) g (fun v n' S' g' => V miX1_gather (d + 1) 90 [(0, .ref 4), (1, .ref r1), (2, I_ x2), (4, .ref r4)] (v.toList ++ []) n' S' g' 0 0 P)) : V miX1_gather (d + 1) 74 [(0, .ref 4), (1, .ref r1), (2, I_ x2), (3, .ref r3), (4, .ref r4)] [] n (W0 dy) g 0 0 P := by
  refine v_aload_n 41 0 rfl rfl rfl ?_
  refine v_aload_n 42 3 rfl rfl rfl ?_
  have c1 := h.1
  have h := h.2
  refine v_gR 43 rfl fl1_41_5.r c1.1 c1.2.1 (by decide) rfl (c1.2.2 15) (x := g r3 15) rfl ?_
  refine v_aload_n 44 3 rfl rfl rfl ?_
  refine v_gI 45 rfl fl1_35_5.r c1.1 c1.2.1 (by decide) rfl (c1.2.2 7) (x := g r3 7) rfl ?_
  refine v_rng fun w2 => ?_
  have p3 : i3 (g r3 7) := rI w2 (q := 7) c1.1 c1.2.1 rfl rfl
  refine v_aload_n 46 3 rfl rfl rfl ?_
  refine v_gL 47 rfl fl1_38_5.r c1.1 c1.2.1 (by decide) rfl (c1.2.2 6) (x := g r3 6) rfl ?_
  refine v_rng fun w4 => ?_
  have p5 : i6 (g r3 6) := rL w4 (q := 6) c1.1 c1.2.1 rfl rfl
  refine v_loc [0, 1, 2, 4] rfl ?_
  refine v_callV (st := []) [.ref ((g r3 15).toNat), I_ (g r3 7), L_ (g r3 6)] 48 rfl lv1_25_gather_1 (al 4 rfl hn) (wk4 dy) (by decide) rfl (Nat.le_refl _) (Nat.le_refl _) ?_
  exact h
set_option maxHeartbeats 8000000 in
set_option maxRecDepth 4000 in
theorem bX1_gather_90 {d n : Nat} {dy : Nat → Shp} {g : Hp} {P : Pst} {r1 : Nat} {x2 : Int} {r4 : Nat} (hn : 100 ≤ n) (h : V miX1_gather (d + 1) 19 [(0, .ref 4), (1, .ref r1), (2, I_ (x2 + 1))] [] n (W0 dy) g 0 0 P) : V miX1_gather (d + 1) 90 [(0, .ref 4), (1, .ref r1), (2, I_ x2), (4, .ref r4)] [] n (W0 dy) g 0 0 P := by
  refine v_iinc 49 2 [1, 2, 0, 3] rfl rfl (by decide) rfl ?_
  refine v_goto 50 rfl (tgt := 19) rfl ?_
  refine v_loc [0, 1, 2] rfl ?_
  exact h
set_option maxHeartbeats 8000000 in
set_option maxRecDepth 4000 in
theorem bX1_gather_103 {d n : Nat} {dy : Nat → Shp} {g : Hp} {P : Pst} {r1 : Nat} {x2 : Int} (hn : 100 ≤ n) (h : (i3 x2) ∧ ((x2 ≤ 0) → P none n (W0 dy) g) ∧ ((0 < x2) → (0 ≤ x2 ∧ x2 < 60) ∧ (Pt n (W0 dy) ((g 5 x2.toNat).toNat)) ∧ ((((g ((g 5 x2.toNat).toNat) 3).toNat) = 0) → V miX1_gather (d + 1) 103 [(0, .ref 4), (1, .ref r1), (2, I_ (x2 + (-1)))] [] n (W0 dy) g 0 0 P) ∧ ((0 < ((g ((g 5 x2.toNat).toNat) 3).toNat)) → (Ob n (W0 dy) ((g ((g 5 x2.toNat).toNat) 3).toNat) 5) ∧ ∀ y11 : Int, y11 = (g ((g ((g 5 x2.toNat).toNat) 3).toNat) 8) + (g ((g 5 x2.toNat).toNat) 8) → (i6 y11) ∧ (Pt n (W0 dy) (((up2 g ((g ((g 5 x2.toNat).toNat) 3).toNat) 8 y11) 5 x2.toNat).toNat)) ∧ ∀ y18 : Int, y18 = (g ((g ((g 5 x2.toNat).toNat) 3).toNat) 9) + (g (((up2 g ((g ((g 5 x2.toNat).toNat) 3).toNat) 8 y11) 5 x2.toNat).toNat) 9) → (i6 y18) ∧ V miX1_gather (d + 1) 103 [(0, .ref 4), (1, .ref r1), (2, I_ (x2 + (-1)))] [] n (W0 dy) (up2 (up2 g ((g ((g 5 x2.toNat).toNat) 3).toNat) 8 y11) ((g ((g 5 x2.toNat).toNat) 3).toNat) 9 y18) 0 0 P))) : V miX1_gather (d + 1) 103 [(0, .ref 4), (1, .ref r1), (2, I_ x2)] [] n (W0 dy) g 0 0 P := by
  refine v_iload_n 56 2 rfl rfl rfl ?_
  have c1 := h.1
  have h := h.2
  refine v_if_le 57 rfl (tgt := 163) rfl c1 (fun q2 => ?_) (fun q2 => ?_)
  · have h := h.1 q2
    exact v_ret (v := none) 88 rfl (Nat.zero_le _) (Nat.zero_le _) trivial rfl h
  · have h := h.2 q2
    refine v_aload_n 58 0 rfl rfl rfl ?_
    refine v_gK 59 rfl fl1_11_1.r (al 4 rfl hn) (wk4 dy) (by decide) rfl (r := 5) (wc4_0 dy) ?_
    refine v_iload_n 60 2 rfl rfl rfl ?_
    have c3 := h.1
    have h := h.2
    refine v_pa (N := 60) 61 rfl (al 5 rfl hn) (wk5 dy) (wn5 dy) (by decide) c3 (y := g 5 x2.toNat) rfl ?_
    have c4 := h.1
    have h := h.2
    refine v_pR 62 rfl ⟨fl1_44_3.r, fl1_44_5.r, fl1_44_9.r⟩ c4 ⟨rfl, rfl, rfl⟩ (x := g ((g 5 x2.toNat).toNat) 3) rfl ?_
    refine v_astore_n 63 [1, 2, 3, 0] rfl rfl (by decide) rfl ?_
    refine v_aload_n 64 3 rfl rfl rfl ?_
    refine v_ifnull 65 rfl (tgt := 157) rfl (fun q5 => ?_) (fun q5 => ?_)
    · have h := h.1 q5
      refine v_iinc 86 2 [1, 2, 0, 3] rfl rfl (by decide) rfl ?_
      refine v_goto 87 rfl (tgt := 103) rfl ?_
      refine v_loc [0, 1, 2] rfl ?_
      exact h
    · have h := h.2 q5
      refine v_aload_n 66 3 rfl rfl rfl ?_
      refine v_dup 67 rfl (by intro h; cases h) ?_
      have c6 := h.1
      have h := h.2
      refine v_gL 68 rfl fl1_48_5.r c6.1 c6.2.1 (by decide) rfl (c6.2.2 8) (x := g ((g ((g 5 x2.toNat).toNat) 3).toNat) 8) rfl ?_
      refine v_rng fun w7 => ?_
      have p8 : i6 (g ((g ((g 5 x2.toNat).toNat) 3).toNat) 8) := rL w7 (q := 8) c6.1 c6.2.1 rfl rfl
      refine v_aload_n 69 0 rfl rfl rfl ?_
      refine v_gK 70 rfl fl1_11_1.r (al 4 rfl hn) (wk4 dy) (by decide) rfl (r := 5) (wc4_0 dy) ?_
      refine v_iload_n 71 2 rfl rfl rfl ?_
      refine v_pa (N := 60) 72 rfl (al 5 rfl hn) (wk5 dy) (wn5 dy) (by decide) c3 (y := g 5 x2.toNat) rfl ?_
      refine v_pL 73 rfl ⟨fl1_51_3.r, fl1_51_5.r, fl1_51_9.r⟩ c4 ⟨rfl, rfl, rfl⟩ (x := g ((g 5 x2.toNat).toNat) 8) rfl ?_
      refine v_rng fun w9 => ?_
      have p10 : i6 (g ((g 5 x2.toNat).toNat) 8) := rPL w9 (q := 8) c4 rfl rfl rfl rfl
      refine v_ladd 74 rfl ?_
      refine v_nmL (fun y11 ey11 => ?_)
      have h := h y11 ey11
      have c12 := h.1
      have h := h.2
      refine v_putL 75 rfl fl1_48_5 c6.1 c6.2.1 (by decide) rfl (c6.2.2 8) c12 ?_
      refine v_aload_n 76 3 rfl rfl rfl ?_
      refine v_dup 77 rfl (by intro h; cases h) ?_
      refine v_gL 78 rfl fl1_52_5.r c6.1 c6.2.1 (by decide) rfl (c6.2.2 9) (x := g ((g ((g 5 x2.toNat).toNat) 3).toNat) 9) (up2_q (by decide)) ?_
      refine v_rng fun w13 => ?_
      have p14 : i6 (g ((g ((g 5 x2.toNat).toNat) 3).toNat) 9) := rL w13 (q := 9) c6.1 c6.2.1 rfl (up2_q (by decide))
      refine v_aload_n 79 0 rfl rfl rfl ?_
      refine v_gK 80 rfl fl1_11_1.r (al 4 rfl hn) (wk4 dy) (by decide) rfl (r := 5) (wc4_0 dy) ?_
      refine v_iload_n 81 2 rfl rfl rfl ?_
      refine v_pa (N := 60) 82 rfl (al 5 rfl hn) (wk5 dy) (wn5 dy) (by decide) c3 (y := (up2 g ((g ((g 5 x2.toNat).toNat) 3).toNat) 8 y11) 5 x2.toNat) rfl ?_
      have c15 := h.1
      have h := h.2
      refine v_pL 83 rfl ⟨fl1_55_3.r, fl1_55_5.r, fl1_55_9.r⟩ c15 ⟨rfl, rfl, rfl⟩ (x := g (((up2 g ((g ((g 5 x2.toNat).toNat) 3).toNat) 8 y11) 5 x2.toNat).toNat) 9) (up2_q (by decide)) ?_
      refine v_rng fun w16 => ?_
      have p17 : i6 (g (((up2 g ((g ((g 5 x2.toNat).toNat) 3).toNat) 8 y11) 5 x2.toNat).toNat) 9) := rPL w16 (q := 9) c15 rfl rfl rfl (up2_q (by decide))
      refine v_ladd 84 rfl ?_
      refine v_nmL (fun y18 ey18 => ?_)
      have h := h y18 ey18
      have c19 := h.1
      have h := h.2
      refine v_putL 85 rfl fl1_52_5 c6.1 c6.2.1 (by decide) rfl (c6.2.2 9) c19 ?_
      refine v_iinc 86 2 [1, 2, 0, 3] rfl rfl (by decide) rfl ?_
      refine v_goto 87 rfl (tgt := 103) rfl ?_
      refine v_loc [0, 1, 2] rfl ?_
      exact h
theorem wX1_gather {d n : Nat} {dy : Nat → Shp} {g : Hp} {P : Pst} {r1 : Nat} (hn : 100 ≤ n) (h : Runs miX1_add d [.ref 4, .ref r1, I_ 0, L_ 0] n (W0 dy) (up2 (up2 g 4 1 0) 4 2 0) (fun v n' S' g' => V miX1_gather (d + 1) 17 [(0, .ref 4), (1, .ref r1)] (v.toList ++ []) n' S' g' 0 0 P)) : Runs miX1_gather (d + 1) [.ref 4, .ref r1] n (W0 dy) g P := Runs.of rfl rfl deX1_gather (Nat.le_of_ble_eq_true rfl) (bX1_gather_0 hn h)
theorem fl1_56_3 : FL RX1 56 3 5 false .int := ⟨RX4, TX4, 14, "MobileMaker$Part", rfl, rfl, by decide, kf3, tbG_in (List.mem_append_right _ (List.mem_of_getElem? (i := 379) (by decide +kernel))) rfl, Or.inl rfl, rfl, by decide +kernel, ⟨tyX4, tyX4_ok⟩, nmX4, fun h => by cases h⟩
theorem fl1_56_5 : FL RX1 56 5 5 false .int := ⟨RX6, TX6, 16, "MobileMaker$Part", rfl, rfl, by decide, kf5, tbG_in (List.mem_append_right _ (List.mem_of_getElem? (i := 379) (by decide +kernel))) rfl, Or.inl rfl, rfl, by decide +kernel, ⟨tyX6, tyX6_ok⟩, nmX6, fun h => by cases h⟩
theorem fl1_56_9 : FL RX1 56 9 5 false .int := ⟨RX10, TX10, 10, "MobileMaker$Part", rfl, rfl, by decide, kf9, tbG_in (List.mem_append_right _ (List.mem_of_getElem? (i := 379) (by decide +kernel))) rfl, Or.inl rfl, rfl, by decide +kernel, ⟨tyX10, tyX10_ok⟩, nmX10, fun h => by cases h⟩
theorem fl1_59_3 : FL RX1 59 3 7 false .int := ⟨RX4, TX4, 14, "MobileMaker$Part", rfl, rfl, by decide, kf3, tbG_in (List.mem_append_right _ (List.mem_of_getElem? (i := 393) (by decide +kernel))) rfl, Or.inl rfl, rfl, by decide +kernel, ⟨tyX4, tyX4_ok⟩, nmX4, fun h => by cases h⟩
theorem fl1_59_5 : FL RX1 59 5 7 false .int := ⟨RX6, TX6, 16, "MobileMaker$Part", rfl, rfl, by decide, kf5, tbG_in (List.mem_append_right _ (List.mem_of_getElem? (i := 393) (by decide +kernel))) rfl, Or.inl rfl, rfl, by decide +kernel, ⟨tyX6, tyX6_ok⟩, nmX6, fun h => by cases h⟩
theorem fl1_59_9 : FL RX1 59 9 7 false .int := ⟨RX10, TX10, 10, "MobileMaker$Part", rfl, rfl, by decide, kf9, tbG_in (List.mem_append_right _ (List.mem_of_getElem? (i := 393) (by decide +kernel))) rfl, Or.inl rfl, rfl, by decide +kernel, ⟨tyX10, tyX10_ok⟩, nmX10, fun h => by cases h⟩
theorem fl1_64_3 : FL RX1 64 3 6 false .long := ⟨RX4, TX4, 14, "MobileMaker$Part", rfl, rfl, by decide, kf3, tbG_in (List.mem_append_right _ (List.mem_of_getElem? (i := 387) (by decide +kernel))) rfl, Or.inl rfl, rfl, by decide +kernel, ⟨tyX4, tyX4_ok⟩, nmX4, fun h => by cases h⟩
theorem fl1_64_5 : FL RX1 64 5 6 false .long := ⟨RX6, TX6, 16, "MobileMaker$Part", rfl, rfl, by decide, kf5, tbG_in (List.mem_append_right _ (List.mem_of_getElem? (i := 387) (by decide +kernel))) rfl, Or.inl rfl, rfl, by decide +kernel, ⟨tyX6, tyX6_ok⟩, nmX6, fun h => by cases h⟩
theorem fl1_64_9 : FL RX1 64 9 6 false .long := ⟨RX10, TX10, 10, "MobileMaker$Part", rfl, rfl, by decide, kf9, tbG_in (List.mem_append_right _ (List.mem_of_getElem? (i := 387) (by decide +kernel))) rfl, Or.inl rfl, rfl, by decide +kernel, ⟨tyX10, tyX10_ok⟩, nmX10, fun h => by cases h⟩
theorem fl1_65_3 : FR RX1 65 3 2 := ⟨RX4, TX4, 14, "MobileMaker$Part", rfl, rfl, by decide, kf3, tbG_in (List.mem_append_right _ (List.mem_of_getElem? (i := 358) (by decide +kernel))) rfl, Or.inl rfl⟩
theorem fl1_65_5 : FR RX1 65 5 2 := ⟨RX6, TX6, 16, "MobileMaker$Part", rfl, rfl, by decide, kf5, tbG_in (List.mem_append_right _ (List.mem_of_getElem? (i := 358) (by decide +kernel))) rfl, Or.inl rfl⟩
theorem fl1_65_9 : FR RX1 65 9 2 := ⟨RX10, TX10, 10, "MobileMaker$Part", rfl, rfl, by decide, kf9, tbG_in (List.mem_append_right _ (List.mem_of_getElem? (i := 358) (by decide +kernel))) rfl, Or.inl rfl⟩
theorem fl1_68_3 : FR RX1 68 3 1 := ⟨RX4, TX4, 14, "MobileMaker$Part", rfl, rfl, by decide, kf3, tbG_in (List.mem_append_right _ (List.mem_of_getElem? (i := 352) (by decide +kernel))) rfl, Or.inl rfl⟩
theorem fl1_68_5 : FR RX1 68 5 1 := ⟨RX6, TX6, 16, "MobileMaker$Part", rfl, rfl, by decide, kf5, tbG_in (List.mem_append_right _ (List.mem_of_getElem? (i := 352) (by decide +kernel))) rfl, Or.inl rfl⟩
theorem fl1_68_9 : FR RX1 68 9 1 := ⟨RX10, TX10, 10, "MobileMaker$Part", rfl, rfl, by decide, kf9, tbG_in (List.mem_append_right _ (List.mem_of_getElem? (i := 352) (by decide +kernel))) rfl, Or.inl rfl⟩
theorem lv1_60_add_3 : LkV miX1_add miX2_bit 60 0 3 := ⟨⟨⟨tbG_in (List.mem_append_right _ (List.mem_of_getElem? (i := 693) (by decide +kernel))) rfl, tbG_in (List.mem_append_right _ (List.mem_of_getElem? (i := 12) (by decide +kernel))) rfl, tbG_in (List.mem_append_right _ (List.mem_of_getElem? (i := 687) (by decide +kernel))) rfl⟩, ⟨by decide +kernel, by decide +kernel, by decide +kernel⟩, by decide⟩, tbG_in (List.mem_append_right _ (List.mem_of_getElem? (i := 688) (by decide +kernel))) rfl, RX4, TX4, 14, rfl, tbG_in (List.mem_append_right _ (List.mem_of_getElem? (i := 690) (by decide +kernel))) rfl⟩
theorem lv1_60_add_5 : LkV miX1_add miX2_bit 60 0 5 := ⟨⟨⟨tbG_in (List.mem_append_right _ (List.mem_of_getElem? (i := 693) (by decide +kernel))) rfl, tbG_in (List.mem_append_right _ (List.mem_of_getElem? (i := 12) (by decide +kernel))) rfl, tbG_in (List.mem_append_right _ (List.mem_of_getElem? (i := 687) (by decide +kernel))) rfl⟩, ⟨by decide +kernel, by decide +kernel, by decide +kernel⟩, by decide⟩, tbG_in (List.mem_append_right _ (List.mem_of_getElem? (i := 688) (by decide +kernel))) rfl, RX6, TX6, 16, rfl, tbG_in (List.mem_append_right _ (List.mem_of_getElem? (i := 691) (by decide +kernel))) rfl⟩
theorem lv1_60_add_9 : LkV miX1_add miX2_bit 60 0 9 := ⟨⟨⟨tbG_in (List.mem_append_right _ (List.mem_of_getElem? (i := 693) (by decide +kernel))) rfl, tbG_in (List.mem_append_right _ (List.mem_of_getElem? (i := 12) (by decide +kernel))) rfl, tbG_in (List.mem_append_right _ (List.mem_of_getElem? (i := 687) (by decide +kernel))) rfl⟩, ⟨by decide +kernel, by decide +kernel, by decide +kernel⟩, by decide⟩, tbG_in (List.mem_append_right _ (List.mem_of_getElem? (i := 688) (by decide +kernel))) rfl, RX10, TX10, 10, rfl, tbG_in (List.mem_append_right _ (List.mem_of_getElem? (i := 692) (by decide +kernel))) rfl⟩
set_option maxHeartbeats 8000000 in
set_option maxRecDepth 4000 in
theorem bX1_add_0 {d n : Nat} {dy : Nat → Shp} {g : Hp} {P : Pst} {r1 : Nat} {x2 : Int} {x3 : Int} (hn : 100 ≤ n) (h : ((r1 = 0) → P none n (W0 dy) g) ∧ ((0 < r1) → (((g 4 1) < 60) → (((g 4 1) ≠ 0) → (Pt n (W0 dy) r1) ∧ (i3 (x2 + (g r1 5))) ∧ Runs miX2_bit d [.ref r1] n (W0 dy) (up2 g r1 7 (x2 + (g r1 5))) (fun v n' S' g' => V miX1_add (d + 1) 44 [(0, .ref 4), (1, .ref r1), (2, I_ x2), (3, L_ x3)] (v.toList ++ [L_ x3, .ref r1]) n' S' g' 0 0 P)) ∧ (((g 4 1) = 0) → (Pt n (W0 dy) r1) ∧ Runs miX2_bit d [.ref r1] n (W0 dy) (up2 g r1 7 0) (fun v n' S' g' => V miX1_add (d + 1) 44 [(0, .ref 4), (1, .ref r1), (2, I_ x2), (3, L_ x3)] (v.toList ++ [L_ x3, .ref r1]) n' S' g' 0 0 P))) ∧ ((60 ≤ (g 4 1)) → P none n (W0 dy) g))) : V miX1_add (d + 1) 0 [(0, .ref 4), (1, .ref r1), (2, I_ x2), (3, L_ x3)] [] n (W0 dy) g 0 0 P := by
  refine v_aload_n 0 1 rfl rfl rfl ?_
  refine v_ifnull 1 rfl (tgt := 16) rfl (fun q1 => ?_) (fun q1 => ?_)
  · have h := h.1 q1
    exact v_ret (v := none) 8 rfl (Nat.zero_le _) (Nat.zero_le _) trivial rfl h
  · have h := h.2 q1
    refine v_aload_n 2 0 rfl rfl rfl ?_
    refine v_gI 3 rfl fl1_17_1.r (al 4 rfl hn) (wk4 dy) (by decide) rfl (wc4_1 dy) (x := g 4 1) rfl ?_
    refine v_rng fun w2 => ?_
    have p3 : i3 (g 4 1) := rI w2 (q := 1) (al 4 rfl hn) (wk4 dy) rfl rfl
    refine v_aload_n 4 0 rfl rfl rfl ?_
    refine v_gK 5 rfl fl1_11_1.r (al 4 rfl hn) (wk4 dy) (by decide) rfl (r := 5) (wc4_0 dy) ?_
    refine v_alen (N := 60) (t := 16) 6 rfl (al 5 rfl hn) (wk5 dy) (by decide) (fun _ => rfl) (wn5 dy) ?_
    refine v_icmp_lt 7 rfl (tgt := 17) rfl p3 (by decide) (fun q4 => ?_) (fun q4 => ?_)
    · have h := h.1 q4
      refine v_aload_n 9 1 rfl rfl rfl ?_
      refine v_aload_n 10 0 rfl rfl rfl ?_
      refine v_gI 11 rfl fl1_17_1.r (al 4 rfl hn) (wk4 dy) (by decide) rfl (wc4_1 dy) (x := g 4 1) rfl ?_
      refine v_rng fun w5 => ?_
      have p6 : i3 (g 4 1) := rI w5 (q := 1) (al 4 rfl hn) (wk4 dy) rfl rfl
      refine v_if_ne 12 rfl (tgt := 29) rfl p6 (fun q7 => ?_) (fun q7 => ?_)
      · have h := h.1 q7
        refine v_iload_n 15 2 rfl rfl rfl ?_
        refine v_aload_n 16 1 rfl rfl rfl ?_
        have c8 := h.1
        have h := h.2
        refine v_pI 17 rfl ⟨fl1_56_3.r, fl1_56_5.r, fl1_56_9.r⟩ c8 ⟨rfl, rfl, rfl⟩ (x := g r1 5) rfl ?_
        refine v_rng fun w9 => ?_
        have p10 : i3 (g r1 5) := rPI w9 (q := 5) c8 rfl rfl rfl rfl
        refine v_iadd 18 rfl ?_
        have c11 := h.1
        have h := h.2
        refine v_qI 19 rfl ⟨fl1_59_3, fl1_59_5, fl1_59_9⟩ c8 ⟨rfl, rfl, rfl⟩ c11 ?_
        refine v_aload_n 20 1 rfl rfl rfl ?_
        refine v_lload_n 21 3 rfl rfl rfl ?_
        refine v_aload_n 22 1 rfl rfl rfl ?_
        refine v_callP (st := [L_ x3, .ref r1]) [] 23 rfl lv1_60_add_3 lv1_60_add_5 lv1_60_add_9 c8 rfl (Nat.le_refl _) (Nat.le_refl _) ?_
        exact h
      · have h := h.2 q7
        refine v_iconst 13 rfl ?_
        refine v_goto 14 rfl (tgt := 35) rfl ?_
        have c12 := h.1
        have h := h.2
        refine v_qI 19 rfl ⟨fl1_59_3, fl1_59_5, fl1_59_9⟩ c12 ⟨rfl, rfl, rfl⟩ (by decide) ?_
        refine v_aload_n 20 1 rfl rfl rfl ?_
        refine v_lload_n 21 3 rfl rfl rfl ?_
        refine v_aload_n 22 1 rfl rfl rfl ?_
        refine v_callP (st := [L_ x3, .ref r1]) [] 23 rfl lv1_60_add_3 lv1_60_add_5 lv1_60_add_9 c12 rfl (Nat.le_refl _) (Nat.le_refl _) ?_
        exact h
    · have h := h.2 q4
      exact v_ret (v := none) 8 rfl (Nat.zero_le _) (Nat.zero_le _) trivial rfl h
set_option maxHeartbeats 8000000 in
set_option maxRecDepth 4000 in
theorem bX1_add_44 {d n : Nat} {dy : Nat → Shp} {g : Hp} {P : Pst} {r1 : Nat} {x2 : Int} {x3 : Int} {rs0 : Nat} {xs1 : Int} {xs2 : Int} (hn : 100 ≤ n) (h : (Pt n (W0 dy) rs0) ∧ (Pt n (W0 dy) r1) ∧ (((g r1 1) ≠ 1) → (0 ≤ g 4 1 ∧ g 4 1 < 60) ∧ (i3 ((g 4 1) + 1)) ∧ Runs miX2_bit d [.ref r1] n (W0 dy) (up2 (up2 (up2 (up2 (up2 g rs0 6 (or6 xs1 xs2)) r1 8 (g r1 2)) r1 9 0) 5 ((g 4 1).toNat) (((r1 : Nat) : Int))) 4 1 ((g 4 1) + 1)) (fun v n' S' g' => V miX1_add (d + 1) 107 [(0, .ref 4), (1, .ref r1), (2, I_ x2), (3, L_ x3)] (v.toList ++ [L_ (g 4 2), .ref 4]) n' S' g' 0 0 P)) ∧ (((g r1 1) = 1) → (0 ≤ g 4 1 ∧ g 4 1 < 60) ∧ (i3 ((g 4 1) + 1)) ∧ Runs miX2_bit d [.ref r1] n (W0 dy) (up2 (up2 (up2 (up2 (up2 g rs0 6 (or6 xs1 xs2)) r1 8 (g r1 2)) r1 9 (g r1 2)) 5 ((g 4 1).toNat) (((r1 : Nat) : Int))) 4 1 ((g 4 1) + 1)) (fun v n' S' g' => V miX1_add (d + 1) 107 [(0, .ref 4), (1, .ref r1), (2, I_ x2), (3, L_ x3)] (v.toList ++ [L_ (g 4 2), .ref 4]) n' S' g' 0 0 P))) : V miX1_add (d + 1) 44 [(0, .ref 4), (1, .ref r1), (2, I_ x2), (3, L_ x3)] [L_ xs2, L_ xs1, .ref rs0] n (W0 dy) g 0 0 P := by
  refine v_lor 24 rfl ?_
  have c1 := h.1
  have h := h.2
  refine v_qL 25 rfl ⟨fl1_64_3, fl1_64_5, fl1_64_9⟩ c1 ⟨rfl, rfl, rfl⟩ (or6_r _ _) ?_
  refine v_aload_n 26 1 rfl rfl rfl ?_
  refine v_aload_n 27 1 rfl rfl rfl ?_
  have c2 := h.1
  have h := h.2
  refine v_pI 28 rfl ⟨fl1_65_3, fl1_65_5, fl1_65_9⟩ c2 ⟨rfl, rfl, rfl⟩ (x := g r1 2) (up2_q (by decide)) ?_
  refine v_rng fun w3 => ?_
  have p4 : i3 (g r1 2) := rPI w3 (q := 2) c2 rfl rfl rfl (up2_q (by decide))
  refine v_i2l 29 rfl p4 ?_
  refine v_qL 30 rfl ⟨fl1_51_3, fl1_51_5, fl1_51_9⟩ c2 ⟨rfl, rfl, rfl⟩ (i36 p4) ?_
  refine v_aload_n 31 1 rfl rfl rfl ?_
  refine v_aload_n 32 1 rfl rfl rfl ?_
  refine v_pI 33 rfl ⟨fl1_68_3, fl1_68_5, fl1_68_9⟩ c2 ⟨rfl, rfl, rfl⟩ (x := g r1 1) ((up2_q (by decide)).trans (up2_q (by decide))) ?_
  refine v_rng fun w5 => ?_
  have p6 : i3 (g r1 1) := rPI w5 (q := 1) c2 rfl rfl rfl ((up2_q (by decide)).trans (up2_q (by decide)))
  refine v_iconst 34 rfl ?_
  refine v_icmp_ne 35 rfl (tgt := 74) rfl p6 (by decide) (fun q7 => ?_) (fun q7 => ?_)
  · have h := h.1 q7
    refine v_lconst (v := 0) 40 rfl (by decide) ?_
    refine v_qL 41 rfl ⟨fl1_55_3, fl1_55_5, fl1_55_9⟩ c2 ⟨rfl, rfl, rfl⟩ (by decide) ?_
    refine v_aload_n 42 0 rfl rfl rfl ?_
    refine v_gK 43 rfl fl1_11_1.r (al 4 rfl hn) (wk4 dy) (by decide) rfl (r := 5) (wc4_0 dy) ?_
    refine v_aload_n 44 0 rfl rfl rfl ?_
    refine v_gI 45 rfl fl1_17_1.r (al 4 rfl hn) (wk4 dy) (by decide) rfl (wc4_1 dy) (x := g 4 1) (((up2_q (by decide)).trans (up2_q (by decide))).trans (up2_q (by decide))) ?_
    refine v_rng fun w8 => ?_
    have p9 : i3 (g 4 1) := rI w8 (q := 1) (al 4 rfl hn) (wk4 dy) rfl (((up2_q (by decide)).trans (up2_q (by decide))).trans (up2_q (by decide)))
    refine v_aload_n 46 1 rfl rfl rfl ?_
    have c10 := h.1
    have h := h.2
    refine v_pastP (N := 60) 47 rfl (al 5 rfl hn) (wk5 dy) (wn5 dy) (by decide) c10 c2 ?_
    refine v_aload_n 48 0 rfl rfl rfl ?_
    refine v_dup 49 rfl (by intro h; cases h) ?_
    refine v_gI 50 rfl fl1_17_1.r (al 4 rfl hn) (wk4 dy) (by decide) rfl (wc4_1 dy) (x := g 4 1) ((((up2_c (by decide)).trans (up2_q (by decide))).trans (up2_q (by decide))).trans (up2_q (by decide))) ?_
    refine v_rng fun w11 => ?_
    have p12 : i3 (g 4 1) := rI w11 (q := 1) (al 4 rfl hn) (wk4 dy) rfl ((((up2_c (by decide)).trans (up2_q (by decide))).trans (up2_q (by decide))).trans (up2_q (by decide)))
    refine v_iconst 51 rfl ?_
    refine v_iadd 52 rfl ?_
    have c13 := h.1
    have h := h.2
    refine v_putI 53 rfl fl1_17_1 (al 4 rfl hn) (wk4 dy) (by decide) rfl (wc4_1 dy) c13 ?_
    refine v_aload_n 54 0 rfl rfl rfl ?_
    refine v_dup 55 rfl (by intro h; cases h) ?_
    refine v_gL 56 rfl fl1_21_1.r (al 4 rfl hn) (wk4 dy) (by decide) rfl (wc4_2 dy) (x := g 4 2) (((((up2_q (by decide)).trans (up2_c (by decide))).trans (up2_q (by decide))).trans (up2_q (by decide))).trans (up2_q (by decide))) ?_
    refine v_rng fun w14 => ?_
    have p15 : i6 (g 4 2) := rL w14 (q := 2) (al 4 rfl hn) (wk4 dy) rfl (((((up2_q (by decide)).trans (up2_c (by decide))).trans (up2_q (by decide))).trans (up2_q (by decide))).trans (up2_q (by decide)))
    refine v_aload_n 57 1 rfl rfl rfl ?_
    refine v_callP (st := [L_ (g 4 2), .ref 4]) [] 58 rfl lv1_60_add_3 lv1_60_add_5 lv1_60_add_9 c2 rfl (Nat.le_refl _) (Nat.le_refl _) ?_
    exact h
  · have h := h.2 q7
    refine v_aload_n 36 1 rfl rfl rfl ?_
    refine v_pI 37 rfl ⟨fl1_65_3, fl1_65_5, fl1_65_9⟩ c2 ⟨rfl, rfl, rfl⟩ (x := g r1 2) ((up2_q (by decide)).trans (up2_q (by decide))) ?_
    refine v_rng fun w16 => ?_
    have p17 : i3 (g r1 2) := rPI w16 (q := 2) c2 rfl rfl rfl ((up2_q (by decide)).trans (up2_q (by decide)))
    refine v_i2l 38 rfl p17 ?_
    refine v_goto 39 rfl (tgt := 75) rfl ?_
    refine v_qL 41 rfl ⟨fl1_55_3, fl1_55_5, fl1_55_9⟩ c2 ⟨rfl, rfl, rfl⟩ (i36 p17) ?_
    refine v_aload_n 42 0 rfl rfl rfl ?_
    refine v_gK 43 rfl fl1_11_1.r (al 4 rfl hn) (wk4 dy) (by decide) rfl (r := 5) (wc4_0 dy) ?_
    refine v_aload_n 44 0 rfl rfl rfl ?_
    refine v_gI 45 rfl fl1_17_1.r (al 4 rfl hn) (wk4 dy) (by decide) rfl (wc4_1 dy) (x := g 4 1) (((up2_q (by decide)).trans (up2_q (by decide))).trans (up2_q (by decide))) ?_
    refine v_rng fun w18 => ?_
    have p19 : i3 (g 4 1) := rI w18 (q := 1) (al 4 rfl hn) (wk4 dy) rfl (((up2_q (by decide)).trans (up2_q (by decide))).trans (up2_q (by decide)))
    refine v_aload_n 46 1 rfl rfl rfl ?_
    have c20 := h.1
    have h := h.2
    refine v_pastP (N := 60) 47 rfl (al 5 rfl hn) (wk5 dy) (wn5 dy) (by decide) c20 c2 ?_
    refine v_aload_n 48 0 rfl rfl rfl ?_
    refine v_dup 49 rfl (by intro h; cases h) ?_
    refine v_gI 50 rfl fl1_17_1.r (al 4 rfl hn) (wk4 dy) (by decide) rfl (wc4_1 dy) (x := g 4 1) ((((up2_c (by decide)).trans (up2_q (by decide))).trans (up2_q (by decide))).trans (up2_q (by decide))) ?_
    refine v_rng fun w21 => ?_
    have p22 : i3 (g 4 1) := rI w21 (q := 1) (al 4 rfl hn) (wk4 dy) rfl ((((up2_c (by decide)).trans (up2_q (by decide))).trans (up2_q (by decide))).trans (up2_q (by decide)))
    refine v_iconst 51 rfl ?_
    refine v_iadd 52 rfl ?_
    have c23 := h.1
    have h := h.2
    refine v_putI 53 rfl fl1_17_1 (al 4 rfl hn) (wk4 dy) (by decide) rfl (wc4_1 dy) c23 ?_
    refine v_aload_n 54 0 rfl rfl rfl ?_
    refine v_dup 55 rfl (by intro h; cases h) ?_
    refine v_gL 56 rfl fl1_21_1.r (al 4 rfl hn) (wk4 dy) (by decide) rfl (wc4_2 dy) (x := g 4 2) (((((up2_q (by decide)).trans (up2_c (by decide))).trans (up2_q (by decide))).trans (up2_q (by decide))).trans (up2_q (by decide))) ?_
    refine v_rng fun w24 => ?_
    have p25 : i6 (g 4 2) := rL w24 (q := 2) (al 4 rfl hn) (wk4 dy) rfl (((((up2_q (by decide)).trans (up2_c (by decide))).trans (up2_q (by decide))).trans (up2_q (by decide))).trans (up2_q (by decide)))
    refine v_aload_n 57 1 rfl rfl rfl ?_
    refine v_callP (st := [L_ (g 4 2), .ref 4]) [] 58 rfl lv1_60_add_3 lv1_60_add_5 lv1_60_add_9 c2 rfl (Nat.le_refl _) (Nat.le_refl _) ?_
    exact h
set_option maxHeartbeats 8000000 in
set_option maxRecDepth 4000 in
theorem bX1_add_107 {d n : Nat} {dy : Nat → Shp} {g : Hp} {P : Pst} {r1 : Nat} {x2 : Int} {x3 : Int} {xs1 : Int} {xs2 : Int} (hn : 100 ≤ n) (h : P none n (W0 dy) (up2 g 4 2 (or6 xs1 xs2))) : V miX1_add (d + 1) 107 [(0, .ref 4), (1, .ref r1), (2, I_ x2), (3, L_ x3)] [L_ xs2, L_ xs1, .ref 4] n (W0 dy) g 0 0 P := by
  refine v_lor 59 rfl ?_
  refine v_putL 60 rfl fl1_21_1 (al 4 rfl hn) (wk4 dy) (by decide) rfl (wc4_2 dy) (or6_r _ _) ?_
  exact v_ret (v := none) 61 rfl (Nat.zero_le _) (Nat.zero_le _) trivial rfl h
theorem wX1_add {d n : Nat} {dy : Nat → Shp} {g : Hp} {P : Pst} {r1 : Nat} {x2 : Int} {x3 : Int} (hn : 100 ≤ n) (h : ((r1 = 0) → P none n (W0 dy) g) ∧ ((0 < r1) → (((g 4 1) < 60) → (((g 4 1) ≠ 0) → (Pt n (W0 dy) r1) ∧ (i3 (x2 + (g r1 5))) ∧ Runs miX2_bit d [.ref r1] n (W0 dy) (up2 g r1 7 (x2 + (g r1 5))) (fun v n' S' g' => V miX1_add (d + 1) 44 [(0, .ref 4), (1, .ref r1), (2, I_ x2), (3, L_ x3)] (v.toList ++ [L_ x3, .ref r1]) n' S' g' 0 0 P)) ∧ (((g 4 1) = 0) → (Pt n (W0 dy) r1) ∧ Runs miX2_bit d [.ref r1] n (W0 dy) (up2 g r1 7 0) (fun v n' S' g' => V miX1_add (d + 1) 44 [(0, .ref 4), (1, .ref r1), (2, I_ x2), (3, L_ x3)] (v.toList ++ [L_ x3, .ref r1]) n' S' g' 0 0 P))) ∧ ((60 ≤ (g 4 1)) → P none n (W0 dy) g))) : Runs miX1_add (d + 1) [.ref 4, .ref r1, I_ x2, L_ x3] n (W0 dy) g P := Runs.of rfl rfl deX1_add (Nat.le_of_ble_eq_true rfl) (bX1_add_0 hn h)
theorem lv1_60_holds_3 : LkV miX1_holds miX2_bit 60 0 3 := ⟨⟨⟨tbG_in (List.mem_append_right _ (List.mem_of_getElem? (i := 693) (by decide +kernel))) rfl, tbG_in (List.mem_append_right _ (List.mem_of_getElem? (i := 12) (by decide +kernel))) rfl, tbG_in (List.mem_append_right _ (List.mem_of_getElem? (i := 687) (by decide +kernel))) rfl⟩, ⟨by decide +kernel, by decide +kernel, by decide +kernel⟩, by decide⟩, tbG_in (List.mem_append_right _ (List.mem_of_getElem? (i := 688) (by decide +kernel))) rfl, RX4, TX4, 14, rfl, tbG_in (List.mem_append_right _ (List.mem_of_getElem? (i := 690) (by decide +kernel))) rfl⟩
theorem lv1_60_holds_5 : LkV miX1_holds miX2_bit 60 0 5 := ⟨⟨⟨tbG_in (List.mem_append_right _ (List.mem_of_getElem? (i := 693) (by decide +kernel))) rfl, tbG_in (List.mem_append_right _ (List.mem_of_getElem? (i := 12) (by decide +kernel))) rfl, tbG_in (List.mem_append_right _ (List.mem_of_getElem? (i := 687) (by decide +kernel))) rfl⟩, ⟨by decide +kernel, by decide +kernel, by decide +kernel⟩, by decide⟩, tbG_in (List.mem_append_right _ (List.mem_of_getElem? (i := 688) (by decide +kernel))) rfl, RX6, TX6, 16, rfl, tbG_in (List.mem_append_right _ (List.mem_of_getElem? (i := 691) (by decide +kernel))) rfl⟩
theorem lv1_60_holds_9 : LkV miX1_holds miX2_bit 60 0 9 := ⟨⟨⟨tbG_in (List.mem_append_right _ (List.mem_of_getElem? (i := 693) (by decide +kernel))) rfl, tbG_in (List.mem_append_right _ (List.mem_of_getElem? (i := 12) (by decide +kernel))) rfl, tbG_in (List.mem_append_right _ (List.mem_of_getElem? (i := 687) (by decide +kernel))) rfl⟩, ⟨by decide +kernel, by decide +kernel, by decide +kernel⟩, by decide⟩, tbG_in (List.mem_append_right _ (List.mem_of_getElem? (i := 688) (by decide +kernel))) rfl, RX10, TX10, 10, rfl, tbG_in (List.mem_append_right _ (List.mem_of_getElem? (i := 692) (by decide +kernel))) rfl⟩
set_option maxHeartbeats 8000000 in
set_option maxRecDepth 4000 in
theorem bX1_holds_0 {d n : Nat} {dy : Nat → Shp} {g : Hp} {P : Pst} {r1 : Nat} (hn : 100 ≤ n) (h : (Pt n (W0 dy) r1) ∧ Runs miX2_bit d [.ref r1] n (W0 dy) g (fun v n' S' g' => V miX1_holds (d + 1) 8 [(0, .ref 4), (1, .ref r1)] (v.toList ++ [L_ (g 4 2)]) n' S' g' 0 0 P)) : V miX1_holds (d + 1) 0 [(0, .ref 4), (1, .ref r1)] [] n (W0 dy) g 0 0 P := by
  refine v_aload_n 0 0 rfl rfl rfl ?_
  refine v_gL 1 rfl fl1_21_1.r (al 4 rfl hn) (wk4 dy) (by decide) rfl (wc4_2 dy) (x := g 4 2) rfl ?_
  refine v_rng fun w1 => ?_
  have p2 : i6 (g 4 2) := rL w1 (q := 2) (al 4 rfl hn) (wk4 dy) rfl rfl
  refine v_aload_n 2 1 rfl rfl rfl ?_
  have c3 := h.1
  have h := h.2
  refine v_callP (st := [L_ (g 4 2)]) [] 3 rfl lv1_60_holds_3 lv1_60_holds_5 lv1_60_holds_9 c3 rfl (Nat.le_refl _) (Nat.le_refl _) ?_
  exact h
set_option maxHeartbeats 8000000 in
set_option maxRecDepth 4000 in
theorem bX1_holds_8 {d n : Nat} {dy : Nat → Shp} {g : Hp} {P : Pst} {r1 : Nat} {xs0 : Int} {xs1 : Int} (hn : 100 ≤ n) (h : (((and6 xs0 xs1) = 0) → P (some (I_ 0)) n (W0 dy) g) ∧ (((and6 xs0 xs1) ≠ 0) → P (some (I_ 1)) n (W0 dy) g)) : V miX1_holds (d + 1) 8 [(0, .ref 4), (1, .ref r1)] [L_ xs1, L_ xs0] n (W0 dy) g 0 0 P := by
  refine v_land 4 rfl ?_
  refine v_lconst (v := 0) 5 rfl (by decide) ?_
  refine v_lif_eq 6 rfl rfl (tgt := 18) rfl (and6_r _ _) (by decide) (fun q1 => ?_) (fun q1 => ?_)
  · have h := h.1 q1
    refine v_iconst 10 rfl ?_
    exact v_ret (v := some (I_ 0)) 11 rfl (Nat.zero_le _) (Nat.zero_le _) (Or.inl rfl) rfl h
  · have h := h.2 q1
    refine v_iconst 8 rfl ?_
    refine v_goto 9 rfl (tgt := 19) rfl ?_
    exact v_ret (v := some (I_ 1)) 11 rfl (Nat.zero_le _) (Nat.zero_le _) (Or.inr rfl) rfl h
theorem wX1_holds {d n : Nat} {dy : Nat → Shp} {g : Hp} {P : Pst} {r1 : Nat} (hn : 100 ≤ n) (h : (Pt n (W0 dy) r1) ∧ Runs miX2_bit d [.ref r1] n (W0 dy) g (fun v n' S' g' => V miX1_holds (d + 1) 8 [(0, .ref 4), (1, .ref r1)] (v.toList ++ [L_ (g 4 2)]) n' S' g' 0 0 P)) : Runs miX1_holds (d + 1) [.ref 4, .ref r1] n (W0 dy) g P := Runs.of rfl rfl deX1_holds (Nat.le_of_ble_eq_true rfl) (bX1_holds_0 hn h)
set_option maxHeartbeats 8000000 in
set_option maxRecDepth 4000 in
theorem bX1_countOf_0 {d n : Nat} {dy : Nat → Shp} {g : Hp} {P : Pst} {x1 : Int} (hn : 100 ≤ n) (h : V miX1_countOf d 4 [(0, .ref 4), (1, I_ x1), (2, I_ 0), (3, I_ 0)] [] n (W0 dy) g 0 0 P) : V miX1_countOf d 0 [(0, .ref 4), (1, I_ x1)] [] n (W0 dy) g 0 0 P := by
  refine v_iconst 0 rfl ?_
  refine v_istore_n 1 [1, 2, 0] rfl rfl (by decide) rfl ?_
  refine v_iconst 2 rfl ?_
  refine v_istore_n 3 [1, 2, 3, 0] rfl rfl (by decide) rfl ?_
  exact h
set_option maxHeartbeats 8000000 in
set_option maxRecDepth 4000 in
theorem bX1_countOf_4 {d n : Nat} {dy : Nat → Shp} {g : Hp} {P : Pst} {x1 : Int} {x2 : Int} {x3 : Int} (hn : 100 ≤ n) (h : (i3 x3) ∧ (((g 4 1) ≤ x3) → P (some (I_ x2)) n (W0 dy) g) ∧ ((x3 < (g 4 1)) → (0 ≤ x3 ∧ x3 < 60) ∧ (Pt n (W0 dy) ((g 5 x3.toNat).toNat)) ∧ (i3 x1) ∧ (((g ((g 5 x3.toNat).toNat) 1) ≠ x1) → V miX1_countOf d 4 [(0, .ref 4), (1, I_ x1), (2, I_ x2), (3, I_ (x3 + 1))] [] n (W0 dy) g 0 0 P) ∧ (((g ((g 5 x3.toNat).toNat) 1) = x1) → V miX1_countOf d 4 [(0, .ref 4), (1, I_ x1), (2, I_ (x2 + 1)), (3, I_ (x3 + 1))] [] n (W0 dy) g 0 0 P))) : V miX1_countOf d 4 [(0, .ref 4), (1, I_ x1), (2, I_ x2), (3, I_ x3)] [] n (W0 dy) g 0 0 P := by
  refine v_iload_n 4 3 rfl rfl rfl ?_
  refine v_aload_n 5 0 rfl rfl rfl ?_
  refine v_gI 6 rfl fl1_17_1.r (al 4 rfl hn) (wk4 dy) (by decide) rfl (wc4_1 dy) (x := g 4 1) rfl ?_
  refine v_rng fun w1 => ?_
  have p2 : i3 (g 4 1) := rI w1 (q := 1) (al 4 rfl hn) (wk4 dy) rfl rfl
  have c3 := h.1
  have h := h.2
  refine v_icmp_ge 7 rfl (tgt := 34) rfl c3 p2 (fun q4 => ?_) (fun q4 => ?_)
  · have h := h.1 q4
    refine v_iload_n 18 2 rfl rfl rfl ?_
    exact v_ret (v := some (I_ x2)) 19 rfl (Nat.zero_le _) (Nat.zero_le _) trivial rfl h
  · have h := h.2 q4
    refine v_aload_n 8 0 rfl rfl rfl ?_
    refine v_gK 9 rfl fl1_11_1.r (al 4 rfl hn) (wk4 dy) (by decide) rfl (r := 5) (wc4_0 dy) ?_
    refine v_iload_n 10 3 rfl rfl rfl ?_
    have c5 := h.1
    have h := h.2
    refine v_pa (N := 60) 11 rfl (al 5 rfl hn) (wk5 dy) (wn5 dy) (by decide) c5 (y := g 5 x3.toNat) rfl ?_
    have c6 := h.1
    have h := h.2
    refine v_pI 12 rfl ⟨fl1_68_3, fl1_68_5, fl1_68_9⟩ c6 ⟨rfl, rfl, rfl⟩ (x := g ((g 5 x3.toNat).toNat) 1) rfl ?_
    refine v_rng fun w7 => ?_
    have p8 : i3 (g ((g 5 x3.toNat).toNat) 1) := rPI w7 (q := 1) c6 rfl rfl rfl rfl
    refine v_iload_n 13 1 rfl rfl rfl ?_
    have c9 := h.1
    have h := h.2
    refine v_icmp_ne 14 rfl (tgt := 28) rfl p8 c9 (fun q10 => ?_) (fun q10 => ?_)
    · have h := h.1 q10
      refine v_iinc 16 3 [1, 2, 3, 0] rfl rfl (by decide) rfl ?_
      refine v_goto 17 rfl (tgt := 4) rfl ?_
      exact h
    · have h := h.2 q10
      refine v_iinc 15 2 [1, 2, 0, 3] rfl rfl (by decide) rfl ?_
      refine v_iinc 16 3 [1, 2, 3, 0] rfl rfl (by decide) rfl ?_
      refine v_goto 17 rfl (tgt := 4) rfl ?_
      exact h
theorem wX1_countOf {d n : Nat} {dy : Nat → Shp} {g : Hp} {P : Pst} {x1 : Int} (hn : 100 ≤ n) (h : V miX1_countOf d 4 [(0, .ref 4), (1, I_ x1), (2, I_ 0), (3, I_ 0)] [] n (W0 dy) g 0 0 P) : Runs miX1_countOf d [.ref 4, I_ x1] n (W0 dy) g P := Runs.of rfl rfl deX1_countOf (Nat.le_of_ble_eq_true rfl) (bX1_countOf_0 hn h)
theorem lv1_71_notLevel_5 : LkV miX1_notLevel miX6_lean 71 0 5 := ⟨⟨⟨tbG_in (List.mem_append_right _ (List.mem_of_getElem? (i := 702) (by decide +kernel))) rfl, tbG_in (List.mem_append_right _ (List.mem_of_getElem? (i := 14) (by decide +kernel))) rfl, tbG_in (List.mem_append_right _ (List.mem_of_getElem? (i := 719) (by decide +kernel))) rfl⟩, ⟨by decide +kernel, by decide +kernel, by decide +kernel⟩, by decide⟩, tbG_in (List.mem_append_right _ (List.mem_of_getElem? (i := 700) (by decide +kernel))) rfl, RX6, TX6, 16, rfl, tbG_in (List.mem_append_right _ (List.mem_of_getElem? (i := 701) (by decide +kernel))) rfl⟩
set_option maxHeartbeats 8000000 in
set_option maxRecDepth 4000 in
theorem bX1_notLevel_0 {d n : Nat} {dy : Nat → Shp} {g : Hp} {P : Pst}  (hn : 100 ≤ n) (h : V miX1_notLevel (d + 1) 4 [(0, .ref 4), (1, I_ 0), (2, I_ 0)] [] n (W0 dy) g 0 0 P) : V miX1_notLevel (d + 1) 0 [(0, .ref 4)] [] n (W0 dy) g 0 0 P := by
  refine v_iconst 0 rfl ?_
  refine v_istore_n 1 [1, 0] rfl rfl (by decide) rfl ?_
  refine v_iconst 2 rfl ?_
  refine v_istore_n 3 [1, 2, 0] rfl rfl (by decide) rfl ?_
  exact h
set_option maxHeartbeats 8000000 in
set_option maxRecDepth 4000 in
theorem bX1_notLevel_4 {d n : Nat} {dy : Nat → Shp} {g : Hp} {P : Pst} {x1 : Int} {x2 : Int} (hn : 100 ≤ n) (h : (i3 x2) ∧ (((g 4 1) ≤ x2) → P (some (I_ x1)) n (W0 dy) g) ∧ ((x2 < (g 4 1)) → (0 ≤ x2 ∧ x2 < 60) ∧ (((g 5 x2.toNat).toNat) = 0 ∨ Pt n (W0 dy) ((g 5 x2.toNat).toNat)) ∧ (((isK (W0 dy) ((g 5 x2.toNat).toNat) 5) = 0) → V miX1_notLevel (d + 1) 4 [(0, .ref 4), (1, I_ x1), (2, I_ (x2 + 1))] [] n (W0 dy) g 0 0 P) ∧ (((isK (W0 dy) ((g 5 x2.toNat).toNat) 5) ≠ 0) → (Ob n (W0 dy) ((g 5 x2.toNat).toNat) 5) ∧ Runs miX6_lean d [.ref ((g 5 x2.toNat).toNat)] n (W0 dy) g (fun v n' S' g' => V miX1_notLevel (d + 1) 38 [(0, .ref 4), (1, I_ x1), (2, I_ x2), (3, .ref ((g 5 x2.toNat).toNat)), (4, .ref ((g 5 x2.toNat).toNat))] (v.toList ++ []) n' S' g' 0 0 P)))) : V miX1_notLevel (d + 1) 4 [(0, .ref 4), (1, I_ x1), (2, I_ x2)] [] n (W0 dy) g 0 0 P := by
  refine v_iload_n 4 2 rfl rfl rfl ?_
  refine v_aload_n 5 0 rfl rfl rfl ?_
  refine v_gI 6 rfl fl1_17_1.r (al 4 rfl hn) (wk4 dy) (by decide) rfl (wc4_1 dy) (x := g 4 1) rfl ?_
  refine v_rng fun w1 => ?_
  have p2 : i3 (g 4 1) := rI w1 (q := 1) (al 4 rfl hn) (wk4 dy) rfl rfl
  have c3 := h.1
  have h := h.2
  refine v_icmp_ge 7 rfl (tgt := 52) rfl c3 p2 (fun q4 => ?_) (fun q4 => ?_)
  · have h := h.1 q4
    refine v_iload_n 27 1 rfl rfl rfl ?_
    exact v_ret (v := some (I_ x1)) 28 rfl (Nat.zero_le _) (Nat.zero_le _) trivial rfl h
  · have h := h.2 q4
    refine v_aload_n 8 0 rfl rfl rfl ?_
    refine v_gK 9 rfl fl1_11_1.r (al 4 rfl hn) (wk4 dy) (by decide) rfl (r := 5) (wc4_0 dy) ?_
    refine v_iload_n 10 2 rfl rfl rfl ?_
    have c5 := h.1
    have h := h.2
    refine v_pa (N := 60) 11 rfl (al 5 rfl hn) (wk5 dy) (wn5 dy) (by decide) c5 (y := g 5 x2.toNat) rfl ?_
    refine v_astore 12 [1, 2, 3, 0] rfl (by decide) rfl ?_
    refine v_aload 13 3 rfl rfl ?_
    have c6 := h.1
    have h := h.2
    refine v_instRod 14 rfl (tbG_in (List.mem_append_right _ (List.mem_of_getElem? (i := 694) (by decide +kernel))) rfl) c6 ?_
    refine v_if_eq 15 rfl (tgt := 46) rfl (isK_r _ _ _) (fun q7 => ?_) (fun q7 => ?_)
    · have h := h.1 q7
      refine v_iinc 25 2 [1, 2, 0, 3] rfl rfl (by decide) rfl ?_
      refine v_goto 26 rfl (tgt := 4) rfl ?_
      refine v_loc [0, 1, 2] rfl ?_
      exact h
    · have h := h.2 q7
      refine v_aload 16 3 rfl rfl ?_
      have c8 := h.1
      have h := h.2
      refine v_cast (ci := 5) 17 rfl (tbG_in (List.mem_append_right _ (List.mem_of_getElem? (i := 694) (by decide +kernel))) rfl) rfl (by decide) c8 ?_
      refine v_astore_n 18 [1, 2, 3, 0, 4] rfl rfl (by decide) rfl ?_
      refine v_aload_n 19 3 rfl rfl rfl ?_
      refine v_callV (st := []) [] 20 rfl lv1_71_notLevel_5 c8.1 c8.2.1 (by decide) rfl (Nat.le_refl _) (Nat.le_refl _) ?_
      exact h
set_option maxHeartbeats 8000000 in
set_option maxRecDepth 4000 in
theorem bX1_notLevel_38 {d n : Nat} {dy : Nat → Shp} {g : Hp} {P : Pst} {x1 : Int} {x2 : Int} {r3 : Nat} {r4 : Nat} {xs0 : Int} (hn : 100 ≤ n) (h : (i6 xs0) ∧ ((xs0 = 0) → V miX1_notLevel (d + 1) 4 [(0, .ref 4), (1, I_ x1), (2, I_ (x2 + 1))] [] n (W0 dy) g 0 0 P) ∧ ((xs0 ≠ 0) → V miX1_notLevel (d + 1) 4 [(0, .ref 4), (1, I_ (x1 + 1)), (2, I_ (x2 + 1))] [] n (W0 dy) g 0 0 P)) : V miX1_notLevel (d + 1) 38 [(0, .ref 4), (1, I_ x1), (2, I_ x2), (3, .ref r3), (4, .ref r4)] [L_ xs0] n (W0 dy) g 0 0 P := by
  refine v_lconst (v := 0) 21 rfl (by decide) ?_
  have c1 := h.1
  have h := h.2
  refine v_lif_eq 22 rfl rfl (tgt := 46) rfl c1 (by decide) (fun q2 => ?_) (fun q2 => ?_)
  · have h := h.1 q2
    refine v_iinc 25 2 [1, 2, 0, 3, 4] rfl rfl (by decide) rfl ?_
    refine v_goto 26 rfl (tgt := 4) rfl ?_
    refine v_loc [0, 1, 2] rfl ?_
    exact h
  · have h := h.2 q2
    refine v_iinc 24 1 [1, 0, 2, 3, 4] rfl rfl (by decide) rfl ?_
    refine v_iinc 25 2 [1, 2, 0, 3, 4] rfl rfl (by decide) rfl ?_
    refine v_goto 26 rfl (tgt := 4) rfl ?_
    refine v_loc [0, 1, 2] rfl ?_
    exact h
theorem wX1_notLevel {d n : Nat} {dy : Nat → Shp} {g : Hp} {P : Pst}  (hn : 100 ≤ n) (h : V miX1_notLevel (d + 1) 4 [(0, .ref 4), (1, I_ 0), (2, I_ 0)] [] n (W0 dy) g 0 0 P) : Runs miX1_notLevel (d + 1) [.ref 4] n (W0 dy) g P := Runs.of rfl rfl deX1_notLevel (Nat.le_of_ble_eq_true rfl) (bX1_notLevel_0 hn h)
theorem lv1_74_canAllBeLevel_5 : LkV miX1_canAllBeLevel miX6_canBeLevel 74 0 5 := ⟨⟨⟨tbG_in (List.mem_append_right _ (List.mem_of_getElem? (i := 727) (by decide +kernel))) rfl, tbG_in (List.mem_append_right _ (List.mem_of_getElem? (i := 14) (by decide +kernel))) rfl, tbG_in (List.mem_append_right _ (List.mem_of_getElem? (i := 753) (by decide +kernel))) rfl⟩, ⟨by decide +kernel, by decide +kernel, by decide +kernel⟩, by decide⟩, tbG_in (List.mem_append_right _ (List.mem_of_getElem? (i := 725) (by decide +kernel))) rfl, RX6, TX6, 16, rfl, tbG_in (List.mem_append_right _ (List.mem_of_getElem? (i := 726) (by decide +kernel))) rfl⟩
set_option maxHeartbeats 8000000 in
set_option maxRecDepth 4000 in
theorem bX1_canAllBeLevel_0 {d n : Nat} {dy : Nat → Shp} {g : Hp} {P : Pst}  (hn : 100 ≤ n) (h : V miX1_canAllBeLevel (d + 1) 2 [(0, .ref 4), (1, I_ 0)] [] n (W0 dy) g 0 0 P) : V miX1_canAllBeLevel (d + 1) 0 [(0, .ref 4)] [] n (W0 dy) g 0 0 P := by
  refine v_iconst 0 rfl ?_
  refine v_istore_n 1 [1, 0] rfl rfl (by decide) rfl ?_
  exact h
set_option maxHeartbeats 8000000 in
set_option maxRecDepth 4000 in
theorem bX1_canAllBeLevel_2 {d n : Nat} {dy : Nat → Shp} {g : Hp} {P : Pst} {x1 : Int} (hn : 100 ≤ n) (h : (i3 x1) ∧ (((g 4 1) ≤ x1) → P (some (I_ 1)) n (W0 dy) g) ∧ ((x1 < (g 4 1)) → (0 ≤ x1 ∧ x1 < 60) ∧ (((g 5 x1.toNat).toNat) = 0 ∨ Pt n (W0 dy) ((g 5 x1.toNat).toNat)) ∧ (((isK (W0 dy) ((g 5 x1.toNat).toNat) 5) = 0) → V miX1_canAllBeLevel (d + 1) 2 [(0, .ref 4), (1, I_ (x1 + 1))] [] n (W0 dy) g 0 0 P) ∧ (((isK (W0 dy) ((g 5 x1.toNat).toNat) 5) ≠ 0) → (Ob n (W0 dy) ((g 5 x1.toNat).toNat) 5) ∧ Runs miX6_canBeLevel d [.ref ((g 5 x1.toNat).toNat)] n (W0 dy) g (fun v n' S' g' => V miX1_canAllBeLevel (d + 1) 33 [(0, .ref 4), (1, I_ x1), (2, .ref ((g 5 x1.toNat).toNat)), (3, .ref ((g 5 x1.toNat).toNat))] (v.toList ++ []) n' S' g' 0 0 P)))) : V miX1_canAllBeLevel (d + 1) 2 [(0, .ref 4), (1, I_ x1)] [] n (W0 dy) g 0 0 P := by
  refine v_iload_n 2 1 rfl rfl rfl ?_
  refine v_aload_n 3 0 rfl rfl rfl ?_
  refine v_gI 4 rfl fl1_17_1.r (al 4 rfl hn) (wk4 dy) (by decide) rfl (wc4_1 dy) (x := g 4 1) rfl ?_
  refine v_rng fun w1 => ?_
  have p2 : i3 (g 4 1) := rI w1 (q := 1) (al 4 rfl hn) (wk4 dy) rfl rfl
  have c3 := h.1
  have h := h.2
  refine v_icmp_ge 5 rfl (tgt := 44) rfl c3 p2 (fun q4 => ?_) (fun q4 => ?_)
  · have h := h.1 q4
    refine v_iconst 24 rfl ?_
    exact v_ret (v := some (I_ 1)) 25 rfl (Nat.zero_le _) (Nat.zero_le _) (Or.inr rfl) rfl h
  · have h := h.2 q4
    refine v_aload_n 6 0 rfl rfl rfl ?_
    refine v_gK 7 rfl fl1_11_1.r (al 4 rfl hn) (wk4 dy) (by decide) rfl (r := 5) (wc4_0 dy) ?_
    refine v_iload_n 8 1 rfl rfl rfl ?_
    have c5 := h.1
    have h := h.2
    refine v_pa (N := 60) 9 rfl (al 5 rfl hn) (wk5 dy) (wn5 dy) (by decide) c5 (y := g 5 x1.toNat) rfl ?_
    refine v_astore_n 10 [1, 2, 0] rfl rfl (by decide) rfl ?_
    refine v_aload_n 11 2 rfl rfl rfl ?_
    have c6 := h.1
    have h := h.2
    refine v_instRod 12 rfl (tbG_in (List.mem_append_right _ (List.mem_of_getElem? (i := 694) (by decide +kernel))) rfl) c6 ?_
    refine v_if_eq 13 rfl (tgt := 38) rfl (isK_r _ _ _) (fun q7 => ?_) (fun q7 => ?_)
    · have h := h.1 q7
      refine v_iinc 22 1 [1, 0, 2] rfl rfl (by decide) rfl ?_
      refine v_goto 23 rfl (tgt := 2) rfl ?_
      refine v_loc [0, 1] rfl ?_
      exact h
    · have h := h.2 q7
      refine v_aload_n 14 2 rfl rfl rfl ?_
      have c8 := h.1
      have h := h.2
      refine v_cast (ci := 5) 15 rfl (tbG_in (List.mem_append_right _ (List.mem_of_getElem? (i := 694) (by decide +kernel))) rfl) rfl (by decide) c8 ?_
      refine v_astore_n 16 [1, 2, 0, 3] rfl rfl (by decide) rfl ?_
      refine v_aload_n 17 2 rfl rfl rfl ?_
      refine v_callV (st := []) [] 18 rfl lv1_74_canAllBeLevel_5 c8.1 c8.2.1 (by decide) rfl (Nat.le_refl _) (Nat.le_refl _) ?_
      exact h
set_option maxHeartbeats 8000000 in
set_option maxRecDepth 4000 in
theorem bX1_canAllBeLevel_33 {d n : Nat} {dy : Nat → Shp} {g : Hp} {P : Pst} {x1 : Int} {r2 : Nat} {r3 : Nat} {xs0 : Int} (hn : 100 ≤ n) (h : (i3 xs0) ∧ ((xs0 ≠ 0) → V miX1_canAllBeLevel (d + 1) 2 [(0, .ref 4), (1, I_ (x1 + 1))] [] n (W0 dy) g 0 0 P) ∧ ((xs0 = 0) → P (some (I_ 0)) n (W0 dy) g)) : V miX1_canAllBeLevel (d + 1) 33 [(0, .ref 4), (1, I_ x1), (2, .ref r2), (3, .ref r3)] [I_ xs0] n (W0 dy) g 0 0 P := by
  have c1 := h.1
  have h := h.2
  refine v_if_ne 19 rfl (tgt := 38) rfl c1 (fun q2 => ?_) (fun q2 => ?_)
  · have h := h.1 q2
    refine v_iinc 22 1 [1, 0, 2, 3] rfl rfl (by decide) rfl ?_
    refine v_goto 23 rfl (tgt := 2) rfl ?_
    refine v_loc [0, 1] rfl ?_
    exact h
  · have h := h.2 q2
    refine v_iconst 20 rfl ?_
    exact v_ret (v := some (I_ 0)) 21 rfl (Nat.zero_le _) (Nat.zero_le _) (Or.inl rfl) rfl h
theorem wX1_canAllBeLevel {d n : Nat} {dy : Nat → Shp} {g : Hp} {P : Pst}  (hn : 100 ≤ n) (h : V miX1_canAllBeLevel (d + 1) 2 [(0, .ref 4), (1, I_ 0)] [] n (W0 dy) g 0 0 P) : Runs miX1_canAllBeLevel (d + 1) [.ref 4] n (W0 dy) g P := Runs.of rfl rfl deX1_canAllBeLevel (Nat.le_of_ble_eq_true rfl) (bX1_canAllBeLevel_0 hn h)
theorem lv1_78_tieAllLevel_5 : LkV miX1_tieAllLevel miX6_tieLevel 78 0 5 := ⟨⟨⟨tbG_in (List.mem_append_right _ (List.mem_of_getElem? (i := 761) (by decide +kernel))) rfl, tbG_in (List.mem_append_right _ (List.mem_of_getElem? (i := 14) (by decide +kernel))) rfl, tbG_in (List.mem_append_right _ (List.mem_of_getElem? (i := 758) (by decide +kernel))) rfl⟩, ⟨by decide +kernel, by decide +kernel, by decide +kernel⟩, by decide⟩, tbG_in (List.mem_append_right _ (List.mem_of_getElem? (i := 759) (by decide +kernel))) rfl, RX6, TX6, 16, rfl, tbG_in (List.mem_append_right _ (List.mem_of_getElem? (i := 760) (by decide +kernel))) rfl⟩
set_option maxHeartbeats 8000000 in
set_option maxRecDepth 4000 in
theorem bX1_tieAllLevel_0 {d n : Nat} {dy : Nat → Shp} {g : Hp} {P : Pst}  (hn : 100 ≤ n) (h : V miX1_tieAllLevel (d + 1) 4 [(0, .ref 4), (1, I_ 0), (2, I_ 0)] [] n (W0 dy) g 0 0 P) : V miX1_tieAllLevel (d + 1) 0 [(0, .ref 4)] [] n (W0 dy) g 0 0 P := by
  refine v_iconst 0 rfl ?_
  refine v_istore_n 1 [1, 0] rfl rfl (by decide) rfl ?_
  refine v_iconst 2 rfl ?_
  refine v_istore_n 3 [1, 2, 0] rfl rfl (by decide) rfl ?_
  exact h
set_option maxHeartbeats 8000000 in
set_option maxRecDepth 4000 in
theorem bX1_tieAllLevel_4 {d n : Nat} {dy : Nat → Shp} {g : Hp} {P : Pst} {x1 : Int} {x2 : Int} (hn : 100 ≤ n) (h : (i3 x2) ∧ (((g 4 1) ≤ x2) → P (some (I_ x1)) n (W0 dy) g) ∧ ((x2 < (g 4 1)) → (0 ≤ x2 ∧ x2 < 60) ∧ (((g 5 x2.toNat).toNat) = 0 ∨ Pt n (W0 dy) ((g 5 x2.toNat).toNat)) ∧ (((isK (W0 dy) ((g 5 x2.toNat).toNat) 5) = 0) → V miX1_tieAllLevel (d + 1) 4 [(0, .ref 4), (1, I_ x1), (2, I_ (x2 + 1))] [] n (W0 dy) g 0 0 P) ∧ (((isK (W0 dy) ((g 5 x2.toNat).toNat) 5) ≠ 0) → (Ob n (W0 dy) ((g 5 x2.toNat).toNat) 5) ∧ Runs miX6_tieLevel d [.ref ((g 5 x2.toNat).toNat)] n (W0 dy) g (fun v n' S' g' => V miX1_tieAllLevel (d + 1) 38 [(0, .ref 4), (1, I_ x1), (2, I_ x2), (3, .ref ((g 5 x2.toNat).toNat)), (4, .ref ((g 5 x2.toNat).toNat))] (v.toList ++ []) n' S' g' 0 0 P)))) : V miX1_tieAllLevel (d + 1) 4 [(0, .ref 4), (1, I_ x1), (2, I_ x2)] [] n (W0 dy) g 0 0 P := by
  refine v_iload_n 4 2 rfl rfl rfl ?_
  refine v_aload_n 5 0 rfl rfl rfl ?_
  refine v_gI 6 rfl fl1_17_1.r (al 4 rfl hn) (wk4 dy) (by decide) rfl (wc4_1 dy) (x := g 4 1) rfl ?_
  refine v_rng fun w1 => ?_
  have p2 : i3 (g 4 1) := rI w1 (q := 1) (al 4 rfl hn) (wk4 dy) rfl rfl
  have c3 := h.1
  have h := h.2
  refine v_icmp_ge 7 rfl (tgt := 47) rfl c3 p2 (fun q4 => ?_) (fun q4 => ?_)
  · have h := h.1 q4
    refine v_iload_n 24 1 rfl rfl rfl ?_
    exact v_ret (v := some (I_ x1)) 25 rfl (Nat.zero_le _) (Nat.zero_le _) trivial rfl h
  · have h := h.2 q4
    refine v_aload_n 8 0 rfl rfl rfl ?_
    refine v_gK 9 rfl fl1_11_1.r (al 4 rfl hn) (wk4 dy) (by decide) rfl (r := 5) (wc4_0 dy) ?_
    refine v_iload_n 10 2 rfl rfl rfl ?_
    have c5 := h.1
    have h := h.2
    refine v_pa (N := 60) 11 rfl (al 5 rfl hn) (wk5 dy) (wn5 dy) (by decide) c5 (y := g 5 x2.toNat) rfl ?_
    refine v_astore 12 [1, 2, 3, 0] rfl (by decide) rfl ?_
    refine v_aload 13 3 rfl rfl ?_
    have c6 := h.1
    have h := h.2
    refine v_instRod 14 rfl (tbG_in (List.mem_append_right _ (List.mem_of_getElem? (i := 694) (by decide +kernel))) rfl) c6 ?_
    refine v_if_eq 15 rfl (tgt := 41) rfl (isK_r _ _ _) (fun q7 => ?_) (fun q7 => ?_)
    · have h := h.1 q7
      refine v_iinc 22 2 [1, 2, 0, 3] rfl rfl (by decide) rfl ?_
      refine v_goto 23 rfl (tgt := 4) rfl ?_
      refine v_loc [0, 1, 2] rfl ?_
      exact h
    · have h := h.2 q7
      refine v_aload 16 3 rfl rfl ?_
      have c8 := h.1
      have h := h.2
      refine v_cast (ci := 5) 17 rfl (tbG_in (List.mem_append_right _ (List.mem_of_getElem? (i := 694) (by decide +kernel))) rfl) rfl (by decide) c8 ?_
      refine v_astore_n 18 [1, 2, 3, 0, 4] rfl rfl (by decide) rfl ?_
      refine v_aload_n 19 3 rfl rfl rfl ?_
      refine v_callV (st := []) [] 20 rfl lv1_78_tieAllLevel_5 c8.1 c8.2.1 (by decide) rfl (Nat.le_refl _) (Nat.le_refl _) ?_
      exact h
set_option maxHeartbeats 8000000 in
set_option maxRecDepth 4000 in
theorem bX1_tieAllLevel_38 {d n : Nat} {dy : Nat → Shp} {g : Hp} {P : Pst} {x1 : Int} {x2 : Int} {r3 : Nat} {r4 : Nat} (hn : 100 ≤ n) (h : V miX1_tieAllLevel (d + 1) 4 [(0, .ref 4), (1, I_ (x1 + 1)), (2, I_ (x2 + 1))] [] n (W0 dy) g 0 0 P) : V miX1_tieAllLevel (d + 1) 38 [(0, .ref 4), (1, I_ x1), (2, I_ x2), (3, .ref r3), (4, .ref r4)] [] n (W0 dy) g 0 0 P := by
  refine v_iinc 21 1 [1, 0, 2, 3, 4] rfl rfl (by decide) rfl ?_
  refine v_iinc 22 2 [1, 2, 0, 3, 4] rfl rfl (by decide) rfl ?_
  refine v_goto 23 rfl (tgt := 4) rfl ?_
  refine v_loc [0, 1, 2] rfl ?_
  exact h
theorem wX1_tieAllLevel {d n : Nat} {dy : Nat → Shp} {g : Hp} {P : Pst}  (hn : 100 ≤ n) (h : V miX1_tieAllLevel (d + 1) 4 [(0, .ref 4), (1, I_ 0), (2, I_ 0)] [] n (W0 dy) g 0 0 P) : Runs miX1_tieAllLevel (d + 1) [.ref 4] n (W0 dy) g P := Runs.of rfl rfl deX1_tieAllLevel (Nat.le_of_ble_eq_true rfl) (bX1_tieAllLevel_0 hn h)
theorem lv1_81_hasWholeArms_5 : LkV miX1_hasWholeArms miX6_hasWholeArms 81 0 5 := ⟨⟨⟨tbG_in (List.mem_append_right _ (List.mem_of_getElem? (i := 780) (by decide +kernel))) rfl, tbG_in (List.mem_append_right _ (List.mem_of_getElem? (i := 14) (by decide +kernel))) rfl, tbG_in (List.mem_append_right _ (List.mem_of_getElem? (i := 820) (by decide +kernel))) rfl⟩, ⟨by decide +kernel, by decide +kernel, by decide +kernel⟩, by decide⟩, tbG_in (List.mem_append_right _ (List.mem_of_getElem? (i := 778) (by decide +kernel))) rfl, RX6, TX6, 16, rfl, tbG_in (List.mem_append_right _ (List.mem_of_getElem? (i := 779) (by decide +kernel))) rfl⟩
set_option maxHeartbeats 8000000 in
set_option maxRecDepth 4000 in
theorem bX1_hasWholeArms_0 {d n : Nat} {dy : Nat → Shp} {g : Hp} {P : Pst}  (hn : 100 ≤ n) (h : V miX1_hasWholeArms (d + 1) 2 [(0, .ref 4), (1, I_ 0)] [] n (W0 dy) g 0 0 P) : V miX1_hasWholeArms (d + 1) 0 [(0, .ref 4)] [] n (W0 dy) g 0 0 P := by
  refine v_iconst 0 rfl ?_
  refine v_istore_n 1 [1, 0] rfl rfl (by decide) rfl ?_
  exact h
set_option maxHeartbeats 8000000 in
set_option maxRecDepth 4000 in
theorem bX1_hasWholeArms_2 {d n : Nat} {dy : Nat → Shp} {g : Hp} {P : Pst} {x1 : Int} (hn : 100 ≤ n) (h : (i3 x1) ∧ (((g 4 1) ≤ x1) → P (some (I_ 1)) n (W0 dy) g) ∧ ((x1 < (g 4 1)) → (0 ≤ x1 ∧ x1 < 60) ∧ (((g 5 x1.toNat).toNat) = 0 ∨ Pt n (W0 dy) ((g 5 x1.toNat).toNat)) ∧ (((isK (W0 dy) ((g 5 x1.toNat).toNat) 5) = 0) → V miX1_hasWholeArms (d + 1) 2 [(0, .ref 4), (1, I_ (x1 + 1))] [] n (W0 dy) g 0 0 P) ∧ (((isK (W0 dy) ((g 5 x1.toNat).toNat) 5) ≠ 0) → (Ob n (W0 dy) ((g 5 x1.toNat).toNat) 5) ∧ Runs miX6_hasWholeArms d [.ref ((g 5 x1.toNat).toNat)] n (W0 dy) g (fun v n' S' g' => V miX1_hasWholeArms (d + 1) 33 [(0, .ref 4), (1, I_ x1), (2, .ref ((g 5 x1.toNat).toNat)), (3, .ref ((g 5 x1.toNat).toNat))] (v.toList ++ []) n' S' g' 0 0 P)))) : V miX1_hasWholeArms (d + 1) 2 [(0, .ref 4), (1, I_ x1)] [] n (W0 dy) g 0 0 P := by
  refine v_iload_n 2 1 rfl rfl rfl ?_
  refine v_aload_n 3 0 rfl rfl rfl ?_
  refine v_gI 4 rfl fl1_17_1.r (al 4 rfl hn) (wk4 dy) (by decide) rfl (wc4_1 dy) (x := g 4 1) rfl ?_
  refine v_rng fun w1 => ?_
  have p2 : i3 (g 4 1) := rI w1 (q := 1) (al 4 rfl hn) (wk4 dy) rfl rfl
  have c3 := h.1
  have h := h.2
  refine v_icmp_ge 5 rfl (tgt := 44) rfl c3 p2 (fun q4 => ?_) (fun q4 => ?_)
  · have h := h.1 q4
    refine v_iconst 24 rfl ?_
    exact v_ret (v := some (I_ 1)) 25 rfl (Nat.zero_le _) (Nat.zero_le _) (Or.inr rfl) rfl h
  · have h := h.2 q4
    refine v_aload_n 6 0 rfl rfl rfl ?_
    refine v_gK 7 rfl fl1_11_1.r (al 4 rfl hn) (wk4 dy) (by decide) rfl (r := 5) (wc4_0 dy) ?_
    refine v_iload_n 8 1 rfl rfl rfl ?_
    have c5 := h.1
    have h := h.2
    refine v_pa (N := 60) 9 rfl (al 5 rfl hn) (wk5 dy) (wn5 dy) (by decide) c5 (y := g 5 x1.toNat) rfl ?_
    refine v_astore_n 10 [1, 2, 0] rfl rfl (by decide) rfl ?_
    refine v_aload_n 11 2 rfl rfl rfl ?_
    have c6 := h.1
    have h := h.2
    refine v_instRod 12 rfl (tbG_in (List.mem_append_right _ (List.mem_of_getElem? (i := 694) (by decide +kernel))) rfl) c6 ?_
    refine v_if_eq 13 rfl (tgt := 38) rfl (isK_r _ _ _) (fun q7 => ?_) (fun q7 => ?_)
    · have h := h.1 q7
      refine v_iinc 22 1 [1, 0, 2] rfl rfl (by decide) rfl ?_
      refine v_goto 23 rfl (tgt := 2) rfl ?_
      refine v_loc [0, 1] rfl ?_
      exact h
    · have h := h.2 q7
      refine v_aload_n 14 2 rfl rfl rfl ?_
      have c8 := h.1
      have h := h.2
      refine v_cast (ci := 5) 15 rfl (tbG_in (List.mem_append_right _ (List.mem_of_getElem? (i := 694) (by decide +kernel))) rfl) rfl (by decide) c8 ?_
      refine v_astore_n 16 [1, 2, 0, 3] rfl rfl (by decide) rfl ?_
      refine v_aload_n 17 2 rfl rfl rfl ?_
      refine v_callV (st := []) [] 18 rfl lv1_81_hasWholeArms_5 c8.1 c8.2.1 (by decide) rfl (Nat.le_refl _) (Nat.le_refl _) ?_
      exact h
set_option maxHeartbeats 8000000 in
set_option maxRecDepth 4000 in
theorem bX1_hasWholeArms_33 {d n : Nat} {dy : Nat → Shp} {g : Hp} {P : Pst} {x1 : Int} {r2 : Nat} {r3 : Nat} {xs0 : Int} (hn : 100 ≤ n) (h : (i3 xs0) ∧ ((xs0 ≠ 0) → V miX1_hasWholeArms (d + 1) 2 [(0, .ref 4), (1, I_ (x1 + 1))] [] n (W0 dy) g 0 0 P) ∧ ((xs0 = 0) → P (some (I_ 0)) n (W0 dy) g)) : V miX1_hasWholeArms (d + 1) 33 [(0, .ref 4), (1, I_ x1), (2, .ref r2), (3, .ref r3)] [I_ xs0] n (W0 dy) g 0 0 P := by
  have c1 := h.1
  have h := h.2
  refine v_if_ne 19 rfl (tgt := 38) rfl c1 (fun q2 => ?_) (fun q2 => ?_)
  · have h := h.1 q2
    refine v_iinc 22 1 [1, 0, 2, 3] rfl rfl (by decide) rfl ?_
    refine v_goto 23 rfl (tgt := 2) rfl ?_
    refine v_loc [0, 1] rfl ?_
    exact h
  · have h := h.2 q2
    refine v_iconst 20 rfl ?_
    exact v_ret (v := some (I_ 0)) 21 rfl (Nat.zero_le _) (Nat.zero_le _) (Or.inl rfl) rfl h
theorem wX1_hasWholeArms {d n : Nat} {dy : Nat → Shp} {g : Hp} {P : Pst}  (hn : 100 ≤ n) (h : V miX1_hasWholeArms (d + 1) 2 [(0, .ref 4), (1, I_ 0)] [] n (W0 dy) g 0 0 P) : Runs miX1_hasWholeArms (d + 1) [.ref 4] n (W0 dy) g P := Runs.of rfl rfl deX1_hasWholeArms (Nat.le_of_ble_eq_true rfl) (bX1_hasWholeArms_0 hn h)
theorem fl1_89_5 : FR RX1 89 5 11 := ⟨RX6, TX6, 16, "MobileMaker$Rod", rfl, rfl, by decide, kf5, tbG_in (List.mem_append_right _ (List.mem_of_getElem? (i := 450) (by decide +kernel))) rfl, Or.inl rfl⟩
theorem lv1_84_isShape_1 : LkV miX1_isShape miX1_hasWholeArms 84 0 1 := ⟨⟨⟨tbG_in (List.mem_append_right _ (List.mem_of_getElem? (i := 819) (by decide +kernel))) rfl, tbG_in (List.mem_append_right _ (List.mem_of_getElem? (i := 2) (by decide +kernel))) rfl, tbG_in (List.mem_append_right _ (List.mem_of_getElem? (i := 894) (by decide +kernel))) rfl⟩, ⟨by decide +kernel, by decide +kernel, by decide +kernel⟩, by decide⟩, tbG_in (List.mem_append_right _ (List.mem_of_getElem? (i := 817) (by decide +kernel))) rfl, RX1, TX1, 3, rfl, tbG_in (List.mem_append_right _ (List.mem_of_getElem? (i := 818) (by decide +kernel))) rfl⟩
theorem ln1_85_isShape : LkN miX1_isShape miX11_asRod 85 1 "MobileMaker" := ⟨⟨tbG_in (List.mem_append_right _ (List.mem_of_getElem? (i := 620) (by decide +kernel))) rfl, tbG_in (List.mem_append_right _ (List.mem_of_getElem? (i := 1) (by decide +kernel))) rfl, by decide⟩, ⟨by decide +kernel, by decide +kernel, by decide +kernel⟩, by decide, tbG_in (List.mem_append_right _ (List.mem_of_getElem? (i := 619) (by decide +kernel))) rfl, rfl⟩
set_option maxHeartbeats 8000000 in
set_option maxRecDepth 4000 in
theorem bX1_isShape_0 {d n : Nat} {dy : Nat → Shp} {g : Hp} {P : Pst}  (hn : 100 ≤ n) (h : (i3 ((g 4 1) + 1)) ∧ ((8 < ((g 4 1) + 1)) → P (some (I_ 0)) n (W0 dy) g) ∧ ((((g 4 1) + 1) ≤ 8) → Runs miX1_hasWholeArms d [.ref 4] n (W0 dy) g (fun v n' S' g' => V miX1_isShape (d + 1) 15 [(0, .ref 4)] (v.toList ++ []) n' S' g' 0 0 P))) : V miX1_isShape (d + 1) 0 [(0, .ref 4)] [] n (W0 dy) g 0 0 P := by
  refine v_aload_n 0 0 rfl rfl rfl ?_
  refine v_gI 1 rfl fl1_17_1.r (al 4 rfl hn) (wk4 dy) (by decide) rfl (wc4_1 dy) (x := g 4 1) rfl ?_
  refine v_rng fun w1 => ?_
  have p2 : i3 (g 4 1) := rI w1 (q := 1) (al 4 rfl hn) (wk4 dy) rfl rfl
  refine v_iconst 2 rfl ?_
  refine v_iadd 3 rfl ?_
  refine v_bipush 4 rfl (by decide) ?_
  have c3 := h.1
  have h := h.2
  refine v_icmp_gt 5 rfl (tgt := 18) rfl c3 (by decide) (fun q4 => ?_) (fun q4 => ?_)
  · have h := h.1 q4
    refine v_iconst 9 rfl ?_
    exact v_ret (v := some (I_ 0)) 10 rfl (Nat.zero_le _) (Nat.zero_le _) (Or.inl rfl) rfl h
  · have h := h.2 q4
    refine v_aload_n 6 0 rfl rfl rfl ?_
    refine v_callV (st := []) [] 7 rfl lv1_84_isShape_1 (al 4 rfl hn) (wk4 dy) (by decide) rfl (Nat.le_refl _) (Nat.le_refl _) ?_
    exact h
set_option maxHeartbeats 8000000 in
set_option maxRecDepth 4000 in
theorem bX1_isShape_15 {d n : Nat} {dy : Nat → Shp} {g : Hp} {P : Pst} {xs0 : Int} (hn : 100 ≤ n) (h : (i3 xs0) ∧ ((xs0 ≠ 0) → V miX1_isShape (d + 1) 22 [(0, .ref 4), (1, I_ 0)] [] n (W0 dy) g 0 0 P) ∧ ((xs0 = 0) → P (some (I_ 0)) n (W0 dy) g)) : V miX1_isShape (d + 1) 15 [(0, .ref 4)] [I_ xs0] n (W0 dy) g 0 0 P := by
  have c1 := h.1
  have h := h.2
  refine v_if_ne 8 rfl (tgt := 20) rfl c1 (fun q2 => ?_) (fun q2 => ?_)
  · have h := h.1 q2
    refine v_iconst 11 rfl ?_
    refine v_istore_n 12 [1, 0] rfl rfl (by decide) rfl ?_
    exact h
  · have h := h.2 q2
    refine v_iconst 9 rfl ?_
    exact v_ret (v := some (I_ 0)) 10 rfl (Nat.zero_le _) (Nat.zero_le _) (Or.inl rfl) rfl h
set_option maxHeartbeats 8000000 in
set_option maxRecDepth 4000 in
theorem bX1_isShape_22 {d n : Nat} {dy : Nat → Shp} {g : Hp} {P : Pst} {x1 : Int} (hn : 100 ≤ n) (h : (i3 x1) ∧ (((g 4 1) ≤ x1) → P (some (I_ 1)) n (W0 dy) g) ∧ ((x1 < (g 4 1)) → (0 ≤ x1 ∧ x1 < 60) ∧ Runs miX11_asRod d [.ref ((g 5 x1.toNat).toNat)] n (W0 dy) g (fun v n' S' g' => V miX1_isShape (d + 1) 39 [(0, .ref 4), (1, I_ x1)] (v.toList ++ []) n' S' g' 0 0 P))) : V miX1_isShape (d + 1) 22 [(0, .ref 4), (1, I_ x1)] [] n (W0 dy) g 0 0 P := by
  refine v_iload_n 13 1 rfl rfl rfl ?_
  refine v_aload_n 14 0 rfl rfl rfl ?_
  refine v_gI 15 rfl fl1_17_1.r (al 4 rfl hn) (wk4 dy) (by decide) rfl (wc4_1 dy) (x := g 4 1) rfl ?_
  refine v_rng fun w1 => ?_
  have p2 : i3 (g 4 1) := rI w1 (q := 1) (al 4 rfl hn) (wk4 dy) rfl rfl
  have c3 := h.1
  have h := h.2
  refine v_icmp_ge 16 rfl (tgt := 59) rfl c3 p2 (fun q4 => ?_) (fun q4 => ?_)
  · have h := h.1 q4
    refine v_iconst 32 rfl ?_
    exact v_ret (v := some (I_ 1)) 33 rfl (Nat.zero_le _) (Nat.zero_le _) (Or.inr rfl) rfl h
  · have h := h.2 q4
    refine v_aload_n 17 0 rfl rfl rfl ?_
    refine v_gK 18 rfl fl1_11_1.r (al 4 rfl hn) (wk4 dy) (by decide) rfl (r := 5) (wc4_0 dy) ?_
    refine v_iload_n 19 1 rfl rfl rfl ?_
    have c5 := h.1
    have h := h.2
    refine v_pa (N := 60) 20 rfl (al 5 rfl hn) (wk5 dy) (wn5 dy) (by decide) c5 (y := g 5 x1.toNat) rfl ?_
    refine v_callSN (st := []) [.ref ((g 5 x1.toNat).toNat)] 21 rfl ln1_85_isShape rfl (Nat.lt_of_lt_of_le (by decide) hn) (Nat.le_refl _) (Nat.le_refl _) ?_
    exact h
set_option maxHeartbeats 8000000 in
set_option maxRecDepth 4000 in
theorem bX1_isShape_39 {d n : Nat} {dy : Nat → Shp} {g : Hp} {P : Pst} {x1 : Int} {rs0 : Nat} (hn : 100 ≤ n) (h : ((rs0 = 0) → P (some (I_ 0)) n (W0 dy) g) ∧ ((0 < rs0) → (Ob n (W0 dy) rs0 5) ∧ (((g rs0 11) = 0) → V miX1_isShape (d + 1) 22 [(0, .ref 4), (1, I_ (x1 + 1))] [] n (W0 dy) g 0 0 P) ∧ (((g rs0 11) ≠ 0) → P (some (I_ 0)) n (W0 dy) g))) : V miX1_isShape (d + 1) 39 [(0, .ref 4), (1, I_ x1)] [.ref rs0] n (W0 dy) g 0 0 P := by
  refine v_astore_n 22 [1, 2, 0] rfl rfl (by decide) rfl ?_
  refine v_aload_n 23 2 rfl rfl rfl ?_
  refine v_ifnull 24 rfl (tgt := 51) rfl (fun q1 => ?_) (fun q1 => ?_)
  · have h := h.1 q1
    refine v_iconst 28 rfl ?_
    exact v_ret (v := some (I_ 0)) 29 rfl (Nat.zero_le _) (Nat.zero_le _) (Or.inl rfl) rfl h
  · have h := h.2 q1
    refine v_aload_n 25 2 rfl rfl rfl ?_
    have c2 := h.1
    have h := h.2
    refine v_gI 26 rfl fl1_89_5 c2.1 c2.2.1 (by decide) rfl (c2.2.2 11) (x := g rs0 11) rfl ?_
    refine v_rng fun w3 => ?_
    have p4 : i3 (g rs0 11) := rI w3 (q := 11) c2.1 c2.2.1 rfl rfl
    refine v_if_eq 27 rfl (tgt := 53) rfl p4 (fun q5 => ?_) (fun q5 => ?_)
    · have h := h.1 q5
      refine v_iinc 30 1 [1, 0, 2] rfl rfl (by decide) rfl ?_
      refine v_goto 31 rfl (tgt := 22) rfl ?_
      refine v_loc [0, 1] rfl ?_
      exact h
    · have h := h.2 q5
      refine v_iconst 28 rfl ?_
      exact v_ret (v := some (I_ 0)) 29 rfl (Nat.zero_le _) (Nat.zero_le _) (Or.inl rfl) rfl h
theorem wX1_isShape {d n : Nat} {dy : Nat → Shp} {g : Hp} {P : Pst}  (hn : 100 ≤ n) (h : (i3 ((g 4 1) + 1)) ∧ ((8 < ((g 4 1) + 1)) → P (some (I_ 0)) n (W0 dy) g) ∧ ((((g 4 1) + 1) ≤ 8) → Runs miX1_hasWholeArms d [.ref 4] n (W0 dy) g (fun v n' S' g' => V miX1_isShape (d + 1) 15 [(0, .ref 4)] (v.toList ++ []) n' S' g' 0 0 P))) : Runs miX1_isShape (d + 1) [.ref 4] n (W0 dy) g P := Runs.of rfl rfl deX1_isShape (Nat.le_of_ble_eq_true rfl) (bX1_isShape_0 hn h)
theorem fl1_92_3 : FR RX1 92 3 0 := ⟨RX4, TX4, 14, "MobileMaker$Part", rfl, rfl, by decide, kf3, tbG_in (List.mem_append_right _ (List.mem_of_getElem? (i := 347) (by decide +kernel))) rfl, Or.inl rfl⟩
theorem fl1_92_5 : FR RX1 92 5 0 := ⟨RX6, TX6, 16, "MobileMaker$Part", rfl, rfl, by decide, kf5, tbG_in (List.mem_append_right _ (List.mem_of_getElem? (i := 347) (by decide +kernel))) rfl, Or.inl rfl⟩
theorem fl1_92_9 : FR RX1 92 9 0 := ⟨RX10, TX10, 10, "MobileMaker$Part", rfl, rfl, by decide, kf9, tbG_in (List.mem_append_right _ (List.mem_of_getElem? (i := 347) (by decide +kernel))) rfl, Or.inl rfl⟩
set_option maxHeartbeats 8000000 in
set_option maxRecDepth 4000 in
theorem bX1_lowestNumber_0 {d n : Nat} {dy : Nat → Shp} {g : Hp} {P : Pst}  (hn : 100 ≤ n) (h : V miX1_lowestNumber d 6 [(0, .ref 4), (1, I_ ((-1))), (2, I_ ((-1))), (3, I_ 0)] [] n (W0 dy) g 0 0 P) : V miX1_lowestNumber d 0 [(0, .ref 4)] [] n (W0 dy) g 0 0 P := by
  refine v_iconst 0 rfl ?_
  refine v_istore_n 1 [1, 0] rfl rfl (by decide) rfl ?_
  refine v_iconst 2 rfl ?_
  refine v_istore_n 3 [1, 2, 0] rfl rfl (by decide) rfl ?_
  refine v_iconst 4 rfl ?_
  refine v_istore_n 5 [1, 2, 3, 0] rfl rfl (by decide) rfl ?_
  exact h
set_option maxHeartbeats 8000000 in
set_option maxRecDepth 4000 in
theorem bX1_lowestNumber_6 {d n : Nat} {dy : Nat → Shp} {g : Hp} {P : Pst} {x1 : Int} {x2 : Int} {x3 : Int} (hn : 100 ≤ n) (h : (i3 x3) ∧ (((g 4 1) ≤ x3) → P (some (I_ x1)) n (W0 dy) g) ∧ ((x3 < (g 4 1)) → (0 ≤ x3 ∧ x3 < 60) ∧ (Pt n (W0 dy) ((g 5 x3.toNat).toNat)) ∧ (i3 x2) ∧ ((x2 < (g ((g 5 x3.toNat).toNat) 7)) → V miX1_lowestNumber d 6 [(0, .ref 4), (1, I_ (g ((g 5 x3.toNat).toNat) 0)), (2, I_ (g ((g 5 x3.toNat).toNat) 7)), (3, I_ (x3 + 1))] [] n (W0 dy) g 0 0 P) ∧ (((g ((g 5 x3.toNat).toNat) 7) ≤ x2) → (((g ((g 5 x3.toNat).toNat) 7) ≠ x2) → V miX1_lowestNumber d 6 [(0, .ref 4), (1, I_ x1), (2, I_ x2), (3, I_ (x3 + 1))] [] n (W0 dy) g 0 0 P) ∧ (((g ((g 5 x3.toNat).toNat) 7) = x2) → (i3 x1) ∧ ((x1 ≤ (g ((g 5 x3.toNat).toNat) 0)) → V miX1_lowestNumber d 6 [(0, .ref 4), (1, I_ x1), (2, I_ x2), (3, I_ (x3 + 1))] [] n (W0 dy) g 0 0 P) ∧ (((g ((g 5 x3.toNat).toNat) 0) < x1) → V miX1_lowestNumber d 6 [(0, .ref 4), (1, I_ (g ((g 5 x3.toNat).toNat) 0)), (2, I_ (g ((g 5 x3.toNat).toNat) 7)), (3, I_ (x3 + 1))] [] n (W0 dy) g 0 0 P))))) : V miX1_lowestNumber d 6 [(0, .ref 4), (1, I_ x1), (2, I_ x2), (3, I_ x3)] [] n (W0 dy) g 0 0 P := by
  refine v_iload_n 6 3 rfl rfl rfl ?_
  refine v_aload_n 7 0 rfl rfl rfl ?_
  refine v_gI 8 rfl fl1_17_1.r (al 4 rfl hn) (wk4 dy) (by decide) rfl (wc4_1 dy) (x := g 4 1) rfl ?_
  refine v_rng fun w1 => ?_
  have p2 : i3 (g 4 1) := rI w1 (q := 1) (al 4 rfl hn) (wk4 dy) rfl rfl
  have c3 := h.1
  have h := h.2
  refine v_icmp_ge 9 rfl (tgt := 67) rfl c3 p2 (fun q4 => ?_) (fun q4 => ?_)
  · have h := h.1 q4
    refine v_iload_n 35 1 rfl rfl rfl ?_
    exact v_ret (v := some (I_ x1)) 36 rfl (Nat.zero_le _) (Nat.zero_le _) trivial rfl h
  · have h := h.2 q4
    refine v_aload_n 10 0 rfl rfl rfl ?_
    refine v_gK 11 rfl fl1_11_1.r (al 4 rfl hn) (wk4 dy) (by decide) rfl (r := 5) (wc4_0 dy) ?_
    refine v_iload_n 12 3 rfl rfl rfl ?_
    have c5 := h.1
    have h := h.2
    refine v_pa (N := 60) 13 rfl (al 5 rfl hn) (wk5 dy) (wn5 dy) (by decide) c5 (y := g 5 x3.toNat) rfl ?_
    refine v_astore 14 [1, 2, 3, 4, 0] rfl (by decide) rfl ?_
    refine v_aload 15 4 rfl rfl ?_
    have c6 := h.1
    have h := h.2
    refine v_pI 16 rfl ⟨fl1_59_3.r, fl1_59_5.r, fl1_59_9.r⟩ c6 ⟨rfl, rfl, rfl⟩ (x := g ((g 5 x3.toNat).toNat) 7) rfl ?_
    refine v_rng fun w7 => ?_
    have p8 : i3 (g ((g 5 x3.toNat).toNat) 7) := rPI w7 (q := 7) c6 rfl rfl rfl rfl
    refine v_iload_n 17 2 rfl rfl rfl ?_
    have c9 := h.1
    have h := h.2
    refine v_icmp_gt 18 rfl (tgt := 49) rfl p8 c9 (fun q10 => ?_) (fun q10 => ?_)
    · have h := h.1 q10
      refine v_aload 27 4 rfl rfl ?_
      refine v_pI 28 rfl ⟨fl1_92_3, fl1_92_5, fl1_92_9⟩ c6 ⟨rfl, rfl, rfl⟩ (x := g ((g 5 x3.toNat).toNat) 0) rfl ?_
      refine v_rng fun w11 => ?_
      have p12 : i3 (g ((g 5 x3.toNat).toNat) 0) := rPI w11 (q := 0) c6 rfl rfl rfl rfl
      refine v_istore_n 29 [1, 0, 2, 3, 4] rfl rfl (by decide) rfl ?_
      refine v_aload 30 4 rfl rfl ?_
      refine v_pI 31 rfl ⟨fl1_59_3.r, fl1_59_5.r, fl1_59_9.r⟩ c6 ⟨rfl, rfl, rfl⟩ (x := g ((g 5 x3.toNat).toNat) 7) rfl ?_
      refine v_rng fun w13 => ?_
      have p14 : i3 (g ((g 5 x3.toNat).toNat) 7) := rPI w13 (q := 7) c6 rfl rfl rfl rfl
      refine v_istore_n 32 [1, 2, 0, 3, 4] rfl rfl (by decide) rfl ?_
      refine v_iinc 33 3 [1, 2, 3, 0, 4] rfl rfl (by decide) rfl ?_
      refine v_goto 34 rfl (tgt := 6) rfl ?_
      refine v_loc [0, 1, 2, 3] rfl ?_
      exact h
    · have h := h.2 q10
      refine v_aload 19 4 rfl rfl ?_
      refine v_pI 20 rfl ⟨fl1_59_3.r, fl1_59_5.r, fl1_59_9.r⟩ c6 ⟨rfl, rfl, rfl⟩ (x := g ((g 5 x3.toNat).toNat) 7) rfl ?_
      refine v_rng fun w15 => ?_
      have p16 : i3 (g ((g 5 x3.toNat).toNat) 7) := rPI w15 (q := 7) c6 rfl rfl rfl rfl
      refine v_iload_n 21 2 rfl rfl rfl ?_
      refine v_icmp_ne 22 rfl (tgt := 61) rfl p16 c9 (fun q17 => ?_) (fun q17 => ?_)
      · have h := h.1 q17
        refine v_iinc 33 3 [1, 2, 3, 0, 4] rfl rfl (by decide) rfl ?_
        refine v_goto 34 rfl (tgt := 6) rfl ?_
        refine v_loc [0, 1, 2, 3] rfl ?_
        exact h
      · have h := h.2 q17
        refine v_aload 23 4 rfl rfl ?_
        refine v_pI 24 rfl ⟨fl1_92_3, fl1_92_5, fl1_92_9⟩ c6 ⟨rfl, rfl, rfl⟩ (x := g ((g 5 x3.toNat).toNat) 0) rfl ?_
        refine v_rng fun w18 => ?_
        have p19 : i3 (g ((g 5 x3.toNat).toNat) 0) := rPI w18 (q := 0) c6 rfl rfl rfl rfl
        refine v_iload_n 25 1 rfl rfl rfl ?_
        have c20 := h.1
        have h := h.2
        refine v_icmp_ge 26 rfl (tgt := 61) rfl p19 c20 (fun q21 => ?_) (fun q21 => ?_)
        · have h := h.1 q21
          refine v_iinc 33 3 [1, 2, 3, 0, 4] rfl rfl (by decide) rfl ?_
          refine v_goto 34 rfl (tgt := 6) rfl ?_
          refine v_loc [0, 1, 2, 3] rfl ?_
          exact h
        · have h := h.2 q21
          refine v_aload 27 4 rfl rfl ?_
          refine v_pI 28 rfl ⟨fl1_92_3, fl1_92_5, fl1_92_9⟩ c6 ⟨rfl, rfl, rfl⟩ (x := g ((g 5 x3.toNat).toNat) 0) rfl ?_
          refine v_rng fun w22 => ?_
          have p23 : i3 (g ((g 5 x3.toNat).toNat) 0) := rPI w22 (q := 0) c6 rfl rfl rfl rfl
          refine v_istore_n 29 [1, 0, 2, 3, 4] rfl rfl (by decide) rfl ?_
          refine v_aload 30 4 rfl rfl ?_
          refine v_pI 31 rfl ⟨fl1_59_3.r, fl1_59_5.r, fl1_59_9.r⟩ c6 ⟨rfl, rfl, rfl⟩ (x := g ((g 5 x3.toNat).toNat) 7) rfl ?_
          refine v_rng fun w24 => ?_
          have p25 : i3 (g ((g 5 x3.toNat).toNat) 7) := rPI w24 (q := 7) c6 rfl rfl rfl rfl
          refine v_istore_n 32 [1, 2, 0, 3, 4] rfl rfl (by decide) rfl ?_
          refine v_iinc 33 3 [1, 2, 3, 0, 4] rfl rfl (by decide) rfl ?_
          refine v_goto 34 rfl (tgt := 6) rfl ?_
          refine v_loc [0, 1, 2, 3] rfl ?_
          exact h
theorem wX1_lowestNumber {d n : Nat} {dy : Nat → Shp} {g : Hp} {P : Pst}  (hn : 100 ≤ n) (h : V miX1_lowestNumber d 6 [(0, .ref 4), (1, I_ ((-1))), (2, I_ ((-1))), (3, I_ 0)] [] n (W0 dy) g 0 0 P) : Runs miX1_lowestNumber d [.ref 4] n (W0 dy) g P := Runs.of rfl rfl deX1_lowestNumber (Nat.le_of_ble_eq_true rfl) (bX1_lowestNumber_0 hn h)
theorem lv1_95_staysLevelBare_5 : LkV miX1_staysLevelBare miX6_keepsLevelBare 95 0 5 := ⟨⟨⟨tbG_in (List.mem_append_right _ (List.mem_of_getElem? (i := 978) (by decide +kernel))) rfl, tbG_in (List.mem_append_right _ (List.mem_of_getElem? (i := 14) (by decide +kernel))) rfl, tbG_in (List.mem_append_right _ (List.mem_of_getElem? (i := 975) (by decide +kernel))) rfl⟩, ⟨by decide +kernel, by decide +kernel, by decide +kernel⟩, by decide⟩, tbG_in (List.mem_append_right _ (List.mem_of_getElem? (i := 976) (by decide +kernel))) rfl, RX6, TX6, 16, rfl, tbG_in (List.mem_append_right _ (List.mem_of_getElem? (i := 977) (by decide +kernel))) rfl⟩
set_option maxHeartbeats 8000000 in
set_option maxRecDepth 4000 in
theorem bX1_staysLevelBare_0 {d n : Nat} {dy : Nat → Shp} {g : Hp} {P : Pst}  (hn : 100 ≤ n) (h : V miX1_staysLevelBare (d + 1) 2 [(0, .ref 4), (1, I_ 0)] [] n (W0 dy) g 0 0 P) : V miX1_staysLevelBare (d + 1) 0 [(0, .ref 4)] [] n (W0 dy) g 0 0 P := by
  refine v_iconst 0 rfl ?_
  refine v_istore_n 1 [1, 0] rfl rfl (by decide) rfl ?_
  exact h
set_option maxHeartbeats 8000000 in
set_option maxRecDepth 4000 in
theorem bX1_staysLevelBare_2 {d n : Nat} {dy : Nat → Shp} {g : Hp} {P : Pst} {x1 : Int} (hn : 100 ≤ n) (h : (i3 x1) ∧ (((g 4 1) ≤ x1) → P (some (I_ 1)) n (W0 dy) g) ∧ ((x1 < (g 4 1)) → (0 ≤ x1 ∧ x1 < 60) ∧ (((g 5 x1.toNat).toNat) = 0 ∨ Pt n (W0 dy) ((g 5 x1.toNat).toNat)) ∧ (((isK (W0 dy) ((g 5 x1.toNat).toNat) 5) = 0) → V miX1_staysLevelBare (d + 1) 2 [(0, .ref 4), (1, I_ (x1 + 1))] [] n (W0 dy) g 0 0 P) ∧ (((isK (W0 dy) ((g 5 x1.toNat).toNat) 5) ≠ 0) → (Ob n (W0 dy) ((g 5 x1.toNat).toNat) 5) ∧ Runs miX6_keepsLevelBare d [.ref ((g 5 x1.toNat).toNat)] n (W0 dy) g (fun v n' S' g' => V miX1_staysLevelBare (d + 1) 33 [(0, .ref 4), (1, I_ x1), (2, .ref ((g 5 x1.toNat).toNat)), (3, .ref ((g 5 x1.toNat).toNat))] (v.toList ++ []) n' S' g' 0 0 P)))) : V miX1_staysLevelBare (d + 1) 2 [(0, .ref 4), (1, I_ x1)] [] n (W0 dy) g 0 0 P := by
  refine v_iload_n 2 1 rfl rfl rfl ?_
  refine v_aload_n 3 0 rfl rfl rfl ?_
  refine v_gI 4 rfl fl1_17_1.r (al 4 rfl hn) (wk4 dy) (by decide) rfl (wc4_1 dy) (x := g 4 1) rfl ?_
  refine v_rng fun w1 => ?_
  have p2 : i3 (g 4 1) := rI w1 (q := 1) (al 4 rfl hn) (wk4 dy) rfl rfl
  have c3 := h.1
  have h := h.2
  refine v_icmp_ge 5 rfl (tgt := 44) rfl c3 p2 (fun q4 => ?_) (fun q4 => ?_)
  · have h := h.1 q4
    refine v_iconst 24 rfl ?_
    exact v_ret (v := some (I_ 1)) 25 rfl (Nat.zero_le _) (Nat.zero_le _) (Or.inr rfl) rfl h
  · have h := h.2 q4
    refine v_aload_n 6 0 rfl rfl rfl ?_
    refine v_gK 7 rfl fl1_11_1.r (al 4 rfl hn) (wk4 dy) (by decide) rfl (r := 5) (wc4_0 dy) ?_
    refine v_iload_n 8 1 rfl rfl rfl ?_
    have c5 := h.1
    have h := h.2
    refine v_pa (N := 60) 9 rfl (al 5 rfl hn) (wk5 dy) (wn5 dy) (by decide) c5 (y := g 5 x1.toNat) rfl ?_
    refine v_astore_n 10 [1, 2, 0] rfl rfl (by decide) rfl ?_
    refine v_aload_n 11 2 rfl rfl rfl ?_
    have c6 := h.1
    have h := h.2
    refine v_instRod 12 rfl (tbG_in (List.mem_append_right _ (List.mem_of_getElem? (i := 694) (by decide +kernel))) rfl) c6 ?_
    refine v_if_eq 13 rfl (tgt := 38) rfl (isK_r _ _ _) (fun q7 => ?_) (fun q7 => ?_)
    · have h := h.1 q7
      refine v_iinc 22 1 [1, 0, 2] rfl rfl (by decide) rfl ?_
      refine v_goto 23 rfl (tgt := 2) rfl ?_
      refine v_loc [0, 1] rfl ?_
      exact h
    · have h := h.2 q7
      refine v_aload_n 14 2 rfl rfl rfl ?_
      have c8 := h.1
      have h := h.2
      refine v_cast (ci := 5) 15 rfl (tbG_in (List.mem_append_right _ (List.mem_of_getElem? (i := 694) (by decide +kernel))) rfl) rfl (by decide) c8 ?_
      refine v_astore_n 16 [1, 2, 0, 3] rfl rfl (by decide) rfl ?_
      refine v_aload_n 17 2 rfl rfl rfl ?_
      refine v_callV (st := []) [] 18 rfl lv1_95_staysLevelBare_5 c8.1 c8.2.1 (by decide) rfl (Nat.le_refl _) (Nat.le_refl _) ?_
      exact h
set_option maxHeartbeats 8000000 in
set_option maxRecDepth 4000 in
theorem bX1_staysLevelBare_33 {d n : Nat} {dy : Nat → Shp} {g : Hp} {P : Pst} {x1 : Int} {r2 : Nat} {r3 : Nat} {xs0 : Int} (hn : 100 ≤ n) (h : (i3 xs0) ∧ ((xs0 ≠ 0) → V miX1_staysLevelBare (d + 1) 2 [(0, .ref 4), (1, I_ (x1 + 1))] [] n (W0 dy) g 0 0 P) ∧ ((xs0 = 0) → P (some (I_ 0)) n (W0 dy) g)) : V miX1_staysLevelBare (d + 1) 33 [(0, .ref 4), (1, I_ x1), (2, .ref r2), (3, .ref r3)] [I_ xs0] n (W0 dy) g 0 0 P := by
  have c1 := h.1
  have h := h.2
  refine v_if_ne 19 rfl (tgt := 38) rfl c1 (fun q2 => ?_) (fun q2 => ?_)
  · have h := h.1 q2
    refine v_iinc 22 1 [1, 0, 2, 3] rfl rfl (by decide) rfl ?_
    refine v_goto 23 rfl (tgt := 2) rfl ?_
    refine v_loc [0, 1] rfl ?_
    exact h
  · have h := h.2 q2
    refine v_iconst 20 rfl ?_
    exact v_ret (v := some (I_ 0)) 21 rfl (Nat.zero_le _) (Nat.zero_le _) (Or.inl rfl) rfl h
theorem wX1_staysLevelBare {d n : Nat} {dy : Nat → Shp} {g : Hp} {P : Pst}  (hn : 100 ≤ n) (h : V miX1_staysLevelBare (d + 1) 2 [(0, .ref 4), (1, I_ 0)] [] n (W0 dy) g 0 0 P) : Runs miX1_staysLevelBare (d + 1) [.ref 4] n (W0 dy) g P := Runs.of rfl rfl deX1_staysLevelBare (Nat.le_of_ble_eq_true rfl) (bX1_staysLevelBare_0 hn h)
theorem fl2_35_3 : FL RX2 35 3 0 true .int := ⟨RX4, TX4, 14, "MobileMaker$Part", rfl, rfl, by decide, kf3, tbG_in (List.mem_append_right _ (List.mem_of_getElem? (i := 346) (by decide +kernel))) rfl, Or.inl rfl, rfl, by decide +kernel, ⟨tyX4, tyX4_ok⟩, nmX4, fun _ => rfl⟩
theorem fl2_35_5 : FL RX2 35 5 0 true .int := ⟨RX6, TX6, 16, "MobileMaker$Part", rfl, rfl, by decide, kf5, tbG_in (List.mem_append_right _ (List.mem_of_getElem? (i := 346) (by decide +kernel))) rfl, Or.inl rfl, rfl, by decide +kernel, ⟨tyX6, tyX6_ok⟩, nmX6, fun _ => rfl⟩
theorem fl2_35_9 : FL RX2 35 9 0 true .int := ⟨RX10, TX10, 10, "MobileMaker$Part", rfl, rfl, by decide, kf9, tbG_in (List.mem_append_right _ (List.mem_of_getElem? (i := 346) (by decide +kernel))) rfl, Or.inl rfl, rfl, by decide +kernel, ⟨tyX10, tyX10_ok⟩, nmX10, fun _ => rfl⟩
set_option maxHeartbeats 8000000 in
set_option maxRecDepth 4000 in
theorem bX2_bit_0 {d n : Nat} {dy : Nat → Shp} {g : Hp} {P : Pst} {r0 : Nat} (hn : 100 ≤ n) (h : (Pt n (W0 dy) r0) ∧ P (some (L_ (shl6 1 (g r0 0)))) n (W0 dy) g) : V miX2_bit d 0 [(0, .ref r0)] [] n (W0 dy) g 0 0 P := by
  refine v_lconst (v := 1) 0 rfl (by decide) ?_
  refine v_aload_n 1 0 rfl rfl rfl ?_
  have c1 := h.1
  have h := h.2
  refine v_pI 2 rfl ⟨fl2_35_3.r, fl2_35_5.r, fl2_35_9.r⟩ c1 ⟨rfl, rfl, rfl⟩ (x := g r0 0) rfl ?_
  refine v_rng fun w2 => ?_
  have p3 : i3 (g r0 0) := rPI w2 (q := 0) c1 rfl rfl rfl rfl
  refine v_lshl 3 rfl ?_
  exact v_ret (v := some (L_ (shl6 1 (g r0 0)))) 4 rfl (Nat.zero_le _) (Nat.zero_le _) trivial rfl h
theorem wX2_bit {d n : Nat} {dy : Nat → Shp} {g : Hp} {P : Pst} {r0 : Nat} (hn : 100 ≤ n) (h : (Pt n (W0 dy) r0) ∧ P (some (L_ (shl6 1 (g r0 0)))) n (W0 dy) g) : Runs miX2_bit d [.ref r0] n (W0 dy) g P := Runs.of rfl rfl deX2_bit (Nat.le_of_ble_eq_true rfl) (bX2_bit_0 hn h)
theorem fl2_9_3 : FL RX2 9 3 3 false (.object "MobileMaker$Rod") := ⟨RX4, TX4, 14, "MobileMaker$Part", rfl, rfl, by decide, kf3, tbG_in (List.mem_append_right _ (List.mem_of_getElem? (i := 363) (by decide +kernel))) rfl, Or.inl rfl, rfl, by decide +kernel, ⟨tyX4, tyX4_ok⟩, nmX4, fun h => by cases h⟩
theorem fl2_9_5 : FL RX2 9 5 3 false (.object "MobileMaker$Rod") := ⟨RX6, TX6, 16, "MobileMaker$Part", rfl, rfl, by decide, kf5, tbG_in (List.mem_append_right _ (List.mem_of_getElem? (i := 363) (by decide +kernel))) rfl, Or.inl rfl, rfl, by decide +kernel, ⟨tyX6, tyX6_ok⟩, nmX6, fun h => by cases h⟩
theorem fl2_9_9 : FL RX2 9 9 3 false (.object "MobileMaker$Rod") := ⟨RX10, TX10, 10, "MobileMaker$Part", rfl, rfl, by decide, kf9, tbG_in (List.mem_append_right _ (List.mem_of_getElem? (i := 363) (by decide +kernel))) rfl, Or.inl rfl, rfl, by decide +kernel, ⟨tyX10, tyX10_ok⟩, nmX10, fun h => by cases h⟩
theorem fl2_15_3 : FL RX2 15 3 4 false .int := ⟨RX4, TX4, 14, "MobileMaker$Part", rfl, rfl, by decide, kf3, tbG_in (List.mem_append_right _ (List.mem_of_getElem? (i := 371) (by decide +kernel))) rfl, Or.inl rfl, rfl, by decide +kernel, ⟨tyX4, tyX4_ok⟩, nmX4, fun h => by cases h⟩
theorem fl2_15_5 : FL RX2 15 5 4 false .int := ⟨RX6, TX6, 16, "MobileMaker$Part", rfl, rfl, by decide, kf5, tbG_in (List.mem_append_right _ (List.mem_of_getElem? (i := 371) (by decide +kernel))) rfl, Or.inl rfl, rfl, by decide +kernel, ⟨tyX6, tyX6_ok⟩, nmX6, fun h => by cases h⟩
theorem fl2_15_9 : FL RX2 15 9 4 false .int := ⟨RX10, TX10, 10, "MobileMaker$Part", rfl, rfl, by decide, kf9, tbG_in (List.mem_append_right _ (List.mem_of_getElem? (i := 371) (by decide +kernel))) rfl, Or.inl rfl, rfl, by decide +kernel, ⟨tyX10, tyX10_ok⟩, nmX10, fun h => by cases h⟩
theorem fl2_19_3 : FL RX2 19 3 5 false .int := ⟨RX4, TX4, 14, "MobileMaker$Part", rfl, rfl, by decide, kf3, tbG_in (List.mem_append_right _ (List.mem_of_getElem? (i := 377) (by decide +kernel))) rfl, Or.inl rfl, rfl, by decide +kernel, ⟨tyX4, tyX4_ok⟩, nmX4, fun h => by cases h⟩
theorem fl2_19_5 : FL RX2 19 5 5 false .int := ⟨RX6, TX6, 16, "MobileMaker$Part", rfl, rfl, by decide, kf5, tbG_in (List.mem_append_right _ (List.mem_of_getElem? (i := 377) (by decide +kernel))) rfl, Or.inl rfl, rfl, by decide +kernel, ⟨tyX6, tyX6_ok⟩, nmX6, fun h => by cases h⟩
theorem fl2_19_9 : FL RX2 19 9 5 false .int := ⟨RX10, TX10, 10, "MobileMaker$Part", rfl, rfl, by decide, kf9, tbG_in (List.mem_append_right _ (List.mem_of_getElem? (i := 377) (by decide +kernel))) rfl, Or.inl rfl, rfl, by decide +kernel, ⟨tyX10, tyX10_ok⟩, nmX10, fun h => by cases h⟩
theorem lv2_44_comeOff_5 : LkV miX2_comeOff miX6_bear 44 2 5 := ⟨⟨⟨tbG_in (List.mem_append_right _ (List.mem_of_getElem? (i := 649) (by decide +kernel))) rfl, tbG_in (List.mem_append_right _ (List.mem_of_getElem? (i := 14) (by decide +kernel))) rfl, tbG_in (List.mem_append_right _ (List.mem_of_getElem? (i := 661) (by decide +kernel))) rfl⟩, ⟨by decide +kernel, by decide +kernel, by decide +kernel⟩, by decide⟩, tbG_in (List.mem_append_right _ (List.mem_of_getElem? (i := 647) (by decide +kernel))) rfl, RX6, TX6, 16, rfl, tbG_in (List.mem_append_right _ (List.mem_of_getElem? (i := 648) (by decide +kernel))) rfl⟩
set_option maxHeartbeats 8000000 in
set_option maxRecDepth 4000 in
theorem bX2_comeOff_0 {d n : Nat} {dy : Nat → Shp} {g : Hp} {P : Pst} {r0 : Nat} (hn : 100 ≤ n) (h : (Pt n (W0 dy) r0) ∧ ((((g r0 3).toNat) = 0) → V miX2_comeOff (d + 1) 19 [(0, .ref r0)] [] n (W0 dy) g 0 0 P) ∧ ((0 < ((g r0 3).toNat)) → (Ob n (W0 dy) ((g r0 3).toNat) 5) ∧ Runs miX6_bear d [.ref ((g r0 3).toNat), I_ (g r0 4), .ref 0] n (W0 dy) g (fun v n' S' g' => V miX2_comeOff (d + 1) 19 [(0, .ref r0)] (v.toList ++ []) n' S' g' 0 0 P))) : V miX2_comeOff (d + 1) 0 [(0, .ref r0)] [] n (W0 dy) g 0 0 P := by
  refine v_aload_n 0 0 rfl rfl rfl ?_
  have c1 := h.1
  have h := h.2
  refine v_pR 1 rfl ⟨fl2_9_3.r, fl2_9_5.r, fl2_9_9.r⟩ c1 ⟨rfl, rfl, rfl⟩ (x := g r0 3) rfl ?_
  refine v_ifnull 2 rfl (tgt := 19) rfl (fun q2 => ?_) (fun q2 => ?_)
  · have h := h.1 q2
    exact h
  · have h := h.2 q2
    refine v_aload_n 3 0 rfl rfl rfl ?_
    refine v_pR 4 rfl ⟨fl2_9_3.r, fl2_9_5.r, fl2_9_9.r⟩ c1 ⟨rfl, rfl, rfl⟩ (x := g r0 3) rfl ?_
    refine v_aload_n 5 0 rfl rfl rfl ?_
    refine v_pI 6 rfl ⟨fl2_15_3.r, fl2_15_5.r, fl2_15_9.r⟩ c1 ⟨rfl, rfl, rfl⟩ (x := g r0 4) rfl ?_
    refine v_rng fun w3 => ?_
    have p4 : i3 (g r0 4) := rPI w3 (q := 4) c1 rfl rfl rfl rfl
    refine v_null 7 rfl ?_
    have c5 := h.1
    have h := h.2
    refine v_callV (st := []) [I_ (g r0 4), .ref 0] 8 rfl lv2_44_comeOff_5 c5.1 c5.2.1 (by decide) rfl (Nat.le_refl _) (Nat.le_refl _) ?_
    exact h
set_option maxHeartbeats 8000000 in
set_option maxRecDepth 4000 in
theorem bX2_comeOff_19 {d n : Nat} {dy : Nat → Shp} {g : Hp} {P : Pst} {r0 : Nat} (hn : 100 ≤ n) (h : (Pt n (W0 dy) r0) ∧ P none n (W0 dy) (up2 (up2 (up2 g r0 3 (((0 : Nat) : Int))) r0 4 ((-1))) r0 5 0)) : V miX2_comeOff (d + 1) 19 [(0, .ref r0)] [] n (W0 dy) g 0 0 P := by
  refine v_aload_n 9 0 rfl rfl rfl ?_
  refine v_null 10 rfl ?_
  have c1 := h.1
  have h := h.2
  refine v_qR 11 rfl ⟨fl2_9_3, fl2_9_5, fl2_9_9⟩ c1 ⟨rfl, rfl, rfl⟩ ?_
  refine v_aload_n 12 0 rfl rfl rfl ?_
  refine v_iconst 13 rfl ?_
  refine v_qI 14 rfl ⟨fl2_15_3, fl2_15_5, fl2_15_9⟩ c1 ⟨rfl, rfl, rfl⟩ (by decide) ?_
  refine v_aload_n 15 0 rfl rfl rfl ?_
  refine v_iconst 16 rfl ?_
  refine v_qI 17 rfl ⟨fl2_19_3, fl2_19_5, fl2_19_9⟩ c1 ⟨rfl, rfl, rfl⟩ (by decide) ?_
  exact v_ret (v := none) 18 rfl (Nat.zero_le _) (Nat.zero_le _) trivial rfl h
theorem wX2_comeOff {d n : Nat} {dy : Nat → Shp} {g : Hp} {P : Pst} {r0 : Nat} (hn : 100 ≤ n) (h : (Pt n (W0 dy) r0) ∧ ((((g r0 3).toNat) = 0) → V miX2_comeOff (d + 1) 19 [(0, .ref r0)] [] n (W0 dy) g 0 0 P) ∧ ((0 < ((g r0 3).toNat)) → (Ob n (W0 dy) ((g r0 3).toNat) 5) ∧ Runs miX6_bear d [.ref ((g r0 3).toNat), I_ (g r0 4), .ref 0] n (W0 dy) g (fun v n' S' g' => V miX2_comeOff (d + 1) 19 [(0, .ref r0)] (v.toList ++ []) n' S' g' 0 0 P))) : Runs miX2_comeOff (d + 1) [.ref r0] n (W0 dy) g P := Runs.of rfl rfl deX2_comeOff (Nat.le_of_ble_eq_true rfl) (bX2_comeOff_0 hn h)
theorem fl3_22_2 : FL RX3 22 2 3 false .int := ⟨RX3, TX3, 11, "MobileMaker$Parting", rfl, rfl, by decide, kf2, tbG_in (List.mem_append_right _ (List.mem_of_getElem? (i := 141) (by decide +kernel))) rfl, Or.inl rfl, rfl, by decide +kernel, ⟨tyX3, tyX3_ok⟩, nmX3, fun h => by cases h⟩
theorem fl3_25_2 : FL RX3 25 2 4 false .boolean := ⟨RX3, TX3, 11, "MobileMaker$Parting", rfl, rfl, by decide, kf2, tbG_in (List.mem_append_right _ (List.mem_of_getElem? (i := 142) (by decide +kernel))) rfl, Or.inl rfl, rfl, by decide +kernel, ⟨tyX3, tyX3_ok⟩, nmX3, fun h => by cases h⟩
theorem fl3_19_2 : FL RX3 19 2 2 true (.array .int) := ⟨RX3, TX3, 11, "MobileMaker$Parting", rfl, rfl, by decide, kf2, tbG_in (List.mem_append_right _ (List.mem_of_getElem? (i := 140) (by decide +kernel))) rfl, Or.inl rfl, rfl, by decide +kernel, ⟨tyX3, tyX3_ok⟩, nmX3, fun _ => rfl⟩
theorem fl3_43_2 : FL RX3 43 2 9 true (.array .int) := ⟨RX3, TX3, 11, "MobileMaker$Parting", rfl, rfl, by decide, kf2, tbG_in (List.mem_append_right _ (List.mem_of_getElem? (i := 147) (by decide +kernel))) rfl, Or.inl rfl, rfl, by decide +kernel, ⟨tyX3, tyX3_ok⟩, nmX3, fun _ => rfl⟩
theorem lv3_49_count_2 : LkV miX3_count miX3_takeNumbers 49 1 2 := ⟨⟨⟨tbG_in (List.mem_append_right _ (List.mem_of_getElem? (i := 907) (by decide +kernel))) rfl, tbG_in (List.mem_append_right _ (List.mem_of_getElem? (i := 6) (by decide +kernel))) rfl, tbG_in (List.mem_append_right _ (List.mem_of_getElem? (i := 904) (by decide +kernel))) rfl⟩, ⟨by decide +kernel, by decide +kernel, by decide +kernel⟩, by decide⟩, tbG_in (List.mem_append_right _ (List.mem_of_getElem? (i := 906) (by decide +kernel))) rfl, RX3, TX3, 11, rfl, tbG_in (List.mem_append_left _ (List.mem_of_getElem? (i := 29) (by decide +kernel))) rfl⟩
theorem lv3_53_count_2 : LkV miX3_count miX3_sumOfNumbers 53 0 2 := ⟨⟨⟨tbG_in (List.mem_append_right _ (List.mem_of_getElem? (i := 913) (by decide +kernel))) rfl, tbG_in (List.mem_append_right _ (List.mem_of_getElem? (i := 6) (by decide +kernel))) rfl, tbG_in (List.mem_append_right _ (List.mem_of_getElem? (i := 910) (by decide +kernel))) rfl⟩, ⟨by decide +kernel, by decide +kernel, by decide +kernel⟩, by decide⟩, tbG_in (List.mem_append_right _ (List.mem_of_getElem? (i := 912) (by decide +kernel))) rfl, RX3, TX3, 11, rfl, tbG_in (List.mem_append_left _ (List.mem_of_getElem? (i := 30) (by decide +kernel))) rfl⟩
theorem lv3_57_count_2 : LkV miX3_count miX3_share 57 3 2 := ⟨⟨⟨tbG_in (List.mem_append_right _ (List.mem_of_getElem? (i := 917) (by decide +kernel))) rfl, tbG_in (List.mem_append_right _ (List.mem_of_getElem? (i := 6) (by decide +kernel))) rfl, tbG_in (List.mem_append_right _ (List.mem_of_getElem? (i := 914) (by decide +kernel))) rfl⟩, ⟨by decide +kernel, by decide +kernel, by decide +kernel⟩, by decide⟩, tbG_in (List.mem_append_right _ (List.mem_of_getElem? (i := 916) (by decide +kernel))) rfl, RX3, TX3, 11, rfl, tbG_in (List.mem_append_left _ (List.mem_of_getElem? (i := 31) (by decide +kernel))) rfl⟩
theorem lv3_61_count_2 : LkV miX3_count miX3_listSets 61 0 2 := ⟨⟨⟨tbG_in (List.mem_append_right _ (List.mem_of_getElem? (i := 927) (by decide +kernel))) rfl, tbG_in (List.mem_append_right _ (List.mem_of_getElem? (i := 6) (by decide +kernel))) rfl, tbG_in (List.mem_append_right _ (List.mem_of_getElem? (i := 924) (by decide +kernel))) rfl⟩, ⟨by decide +kernel, by decide +kernel, by decide +kernel⟩, by decide⟩, tbG_in (List.mem_append_right _ (List.mem_of_getElem? (i := 926) (by decide +kernel))) rfl, RX3, TX3, 11, rfl, tbG_in (List.mem_append_left _ (List.mem_of_getElem? (i := 33) (by decide +kernel))) rfl⟩
theorem lv3_68_count_2 : LkV miX3_count miX3_fullSet 68 0 2 := ⟨⟨⟨tbG_in (List.mem_append_right _ (List.mem_of_getElem? (i := 950) (by decide +kernel))) rfl, tbG_in (List.mem_append_right _ (List.mem_of_getElem? (i := 6) (by decide +kernel))) rfl, tbG_in (List.mem_append_right _ (List.mem_of_getElem? (i := 947) (by decide +kernel))) rfl⟩, ⟨by decide +kernel, by decide +kernel, by decide +kernel⟩, by decide⟩, tbG_in (List.mem_append_right _ (List.mem_of_getElem? (i := 949) (by decide +kernel))) rfl, RX3, TX3, 11, rfl, tbG_in (List.mem_append_left _ (List.mem_of_getElem? (i := 38) (by decide +kernel))) rfl⟩
theorem lv3_64_count_2 : LkV miX3_count miX3_goOnFrom 64 1 2 := ⟨⟨⟨tbG_in (List.mem_append_right _ (List.mem_of_getElem? (i := 942) (by decide +kernel))) rfl, tbG_in (List.mem_append_right _ (List.mem_of_getElem? (i := 6) (by decide +kernel))) rfl, tbG_in (List.mem_append_right _ (List.mem_of_getElem? (i := 939) (by decide +kernel))) rfl⟩, ⟨by decide +kernel, by decide +kernel, by decide +kernel⟩, by decide⟩, tbG_in (List.mem_append_right _ (List.mem_of_getElem? (i := 941) (by decide +kernel))) rfl, RX3, TX3, 11, rfl, tbG_in (List.mem_append_left _ (List.mem_of_getElem? (i := 36) (by decide +kernel))) rfl⟩
set_option maxHeartbeats 8000000 in
set_option maxRecDepth 4000 in
theorem bX3_count_0 {d n : Nat} {dy : Nat → Shp} {g : Hp} {P : Pst} {r1 : Nat} {r2 : Nat} (hn : 100 ≤ n) (h : Runs miX3_takeNumbers d [.ref 18, .ref r2] n (W0 dy) g (fun v n' S' g' => V miX3_count (d + 1) 5 [(0, .ref 18), (1, .ref r1), (2, .ref r2)] (v.toList ++ []) n' S' g' 0 0 P)) : V miX3_count (d + 1) 0 [(0, .ref 18), (1, .ref r1), (2, .ref r2)] [] n (W0 dy) g 0 0 P := by
  refine v_aload_n 0 0 rfl rfl rfl ?_
  refine v_aload_n 1 2 rfl rfl rfl ?_
  refine v_callV (st := []) [.ref r2] 2 rfl lv3_49_count_2 (al 18 rfl hn) (wk18 dy) (by decide) rfl (Nat.le_refl _) (Nat.le_refl _) ?_
  exact h
set_option maxHeartbeats 8000000 in
set_option maxRecDepth 4000 in
theorem bX3_count_5 {d n : Nat} {dy : Nat → Shp} {g : Hp} {P : Pst} {r1 : Nat} {r2 : Nat} (hn : 100 ≤ n) (h : Runs miX3_sumOfNumbers d [.ref 18] n (W0 dy) (up2 (up2 (up2 g 18 3 0) 18 4 1) 20 0 0) (fun v n' S' g' => V miX3_count (d + 1) 28 [(0, .ref 18), (1, .ref r1), (2, .ref r2)] (v.toList ++ [.ref r1, .ref 18]) n' S' g' 0 0 P)) : V miX3_count (d + 1) 5 [(0, .ref 18), (1, .ref r1), (2, .ref r2)] [] n (W0 dy) g 0 0 P := by
  refine v_aload_n 3 0 rfl rfl rfl ?_
  refine v_iconst 4 rfl ?_
  refine v_putI 5 rfl fl3_22_2 (al 18 rfl hn) (wk18 dy) (by decide) rfl (wc18_3 dy) (by decide) ?_
  refine v_aload_n 6 0 rfl rfl rfl ?_
  refine v_iconst 7 rfl ?_
  refine v_putZ 8 rfl fl3_25_2 (al 18 rfl hn) (wk18 dy) (by decide) rfl (wc18_4 dy) (Or.inr rfl) ?_
  refine v_aload_n 9 0 rfl rfl rfl ?_
  refine v_gK 10 rfl fl3_19_2.r (al 18 rfl hn) (wk18 dy) (by decide) rfl (r := 20) (wc18_2 dy) ?_
  refine v_iconst 11 rfl ?_
  refine v_iconst 12 rfl ?_
  refine v_iast (N := 9) 13 rfl (al 20 rfl hn) (wk20 dy) (wn20 dy) (by decide) (by decide) (by decide) ?_
  refine v_aload_n 14 0 rfl rfl rfl ?_
  refine v_aload_n 15 1 rfl rfl rfl ?_
  refine v_aload_n 16 0 rfl rfl rfl ?_
  refine v_callV (st := [.ref r1, .ref 18]) [] 17 rfl lv3_53_count_2 (al 18 rfl hn) (wk18 dy) (by decide) rfl (Nat.le_refl _) (Nat.le_refl _) ?_
  exact h
set_option maxHeartbeats 8000000 in
set_option maxRecDepth 4000 in
theorem bX3_count_28 {d n : Nat} {dy : Nat → Shp} {g : Hp} {P : Pst} {r1 : Nat} {r2 : Nat} {rs1 : Nat} {xs2 : Int} (hn : 100 ≤ n) (h : Runs miX3_share d [.ref 18, .ref rs1, I_ xs2, I_ 0] n (W0 dy) g (fun v n' S' g' => V miX3_count (d + 1) 32 [(0, .ref 18), (1, .ref r1), (2, .ref r2)] (v.toList ++ []) n' S' g' 0 0 P)) : V miX3_count (d + 1) 28 [(0, .ref 18), (1, .ref r1), (2, .ref r2)] [I_ xs2, .ref rs1, .ref 18] n (W0 dy) g 0 0 P := by
  refine v_iconst 18 rfl ?_
  refine v_callV (st := []) [.ref rs1, I_ xs2, I_ 0] 19 rfl lv3_57_count_2 (al 18 rfl hn) (wk18 dy) (by decide) rfl (Nat.le_refl _) (Nat.le_refl _) ?_
  exact h
set_option maxHeartbeats 8000000 in
set_option maxRecDepth 4000 in
theorem bX3_count_32 {d n : Nat} {dy : Nat → Shp} {g : Hp} {P : Pst} {r1 : Nat} {r2 : Nat} (hn : 100 ≤ n) (h : (((g 18 4) ≠ 0) → Runs miX3_listSets d [.ref 18] n (W0 dy) g (fun v n' S' g' => V miX3_count (d + 1) 45 [(0, .ref 18), (1, .ref r1), (2, .ref r2)] (v.toList ++ []) n' S' g' 0 0 P)) ∧ (((g 18 4) = 0) → P (some (I_ 0)) n (W0 dy) g)) : V miX3_count (d + 1) 32 [(0, .ref 18), (1, .ref r1), (2, .ref r2)] [] n (W0 dy) g 0 0 P := by
  refine v_aload_n 20 0 rfl rfl rfl ?_
  refine v_gI 21 rfl fl3_25_2.r (al 18 rfl hn) (wk18 dy) (by decide) rfl (wc18_4 dy) (x := g 18 4) rfl ?_
  refine v_rng fun w1 => ?_
  have p2 : i3 (g 18 4) := rI w1 (q := 4) (al 18 rfl hn) (wk18 dy) rfl rfl
  refine v_if_ne 22 rfl (tgt := 41) rfl p2 (fun q3 => ?_) (fun q3 => ?_)
  · have h := h.1 q3
    refine v_aload_n 25 0 rfl rfl rfl ?_
    refine v_callV (st := []) [] 26 rfl lv3_61_count_2 (al 18 rfl hn) (wk18 dy) (by decide) rfl (Nat.le_refl _) (Nat.le_refl _) ?_
    exact h
  · have h := h.2 q3
    refine v_iconst 23 rfl ?_
    exact v_ret (v := some (I_ 0)) 24 rfl (Nat.zero_le _) (Nat.zero_le _) trivial rfl h
set_option maxHeartbeats 8000000 in
set_option maxRecDepth 4000 in
theorem bX3_count_45 {d n : Nat} {dy : Nat → Shp} {g : Hp} {P : Pst} {r1 : Nat} {r2 : Nat} (hn : 100 ≤ n) (h : V miX3_count (d + 1) 47 [(0, .ref 18), (1, .ref r1), (2, .ref r2), (3, I_ 0)] [] n (W0 dy) g 0 0 P) : V miX3_count (d + 1) 45 [(0, .ref 18), (1, .ref r1), (2, .ref r2)] [] n (W0 dy) g 0 0 P := by
  refine v_iconst 27 rfl ?_
  refine v_istore_n 28 [1, 2, 3, 0] rfl rfl (by decide) rfl ?_
  exact h
set_option maxHeartbeats 8000000 in
set_option maxRecDepth 4000 in
theorem bX3_count_47 {d n : Nat} {dy : Nat → Shp} {g : Hp} {P : Pst} {r1 : Nat} {r2 : Nat} {x3 : Int} (hn : 100 ≤ n) (h : (i3 x3) ∧ (((g 18 3) ≤ x3) → Runs miX3_fullSet d [.ref 18] n (W0 dy) g (fun v n' S' g' => V miX3_count (d + 1) 74 [(0, .ref 18), (1, .ref r1), (2, .ref r2), (3, I_ x3)] (v.toList ++ [.ref 34]) n' S' g' 0 0 P)) ∧ ((x3 < (g 18 3)) → Runs miX3_goOnFrom d [.ref 18, I_ x3] n (W0 dy) g (fun v n' S' g' => V miX3_count (d + 1) 60 [(0, .ref 18), (1, .ref r1), (2, .ref r2), (3, I_ x3)] (v.toList ++ []) n' S' g' 0 0 P))) : V miX3_count (d + 1) 47 [(0, .ref 18), (1, .ref r1), (2, .ref r2), (3, I_ x3)] [] n (W0 dy) g 0 0 P := by
  refine v_iload_n 29 3 rfl rfl rfl ?_
  refine v_aload_n 30 0 rfl rfl rfl ?_
  refine v_gI 31 rfl fl3_22_2.r (al 18 rfl hn) (wk18 dy) (by decide) rfl (wc18_3 dy) (x := g 18 3) rfl ?_
  refine v_rng fun w1 => ?_
  have p2 : i3 (g 18 3) := rI w1 (q := 3) (al 18 rfl hn) (wk18 dy) rfl rfl
  have c3 := h.1
  have h := h.2
  refine v_icmp_ge 32 rfl (tgt := 66) rfl c3 p2 (fun q4 => ?_) (fun q4 => ?_)
  · have h := h.1 q4
    refine v_aload_n 38 0 rfl rfl rfl ?_
    refine v_gK 39 rfl fl3_43_2.r (al 18 rfl hn) (wk18 dy) (by decide) rfl (r := 34) (wc18_9 dy) ?_
    refine v_aload_n 40 0 rfl rfl rfl ?_
    refine v_callV (st := [.ref 34]) [] 41 rfl lv3_68_count_2 (al 18 rfl hn) (wk18 dy) (by decide) rfl (Nat.le_refl _) (Nat.le_refl _) ?_
    exact h
  · have h := h.2 q4
    refine v_aload_n 33 0 rfl rfl rfl ?_
    refine v_iload_n 34 3 rfl rfl rfl ?_
    refine v_callV (st := []) [I_ x3] 35 rfl lv3_64_count_2 (al 18 rfl hn) (wk18 dy) (by decide) rfl (Nat.le_refl _) (Nat.le_refl _) ?_
    exact h
set_option maxHeartbeats 8000000 in
set_option maxRecDepth 4000 in
theorem bX3_count_60 {d n : Nat} {dy : Nat → Shp} {g : Hp} {P : Pst} {r1 : Nat} {r2 : Nat} {x3 : Int} (hn : 100 ≤ n) (h : V miX3_count (d + 1) 47 [(0, .ref 18), (1, .ref r1), (2, .ref r2), (3, I_ (x3 + 1))] [] n (W0 dy) g 0 0 P) : V miX3_count (d + 1) 60 [(0, .ref 18), (1, .ref r1), (2, .ref r2), (3, I_ x3)] [] n (W0 dy) g 0 0 P := by
  refine v_iinc 36 3 [1, 2, 3, 0] rfl rfl (by decide) rfl ?_
  refine v_goto 37 rfl (tgt := 47) rfl ?_
  exact h
set_option maxHeartbeats 8000000 in
set_option maxRecDepth 4000 in
theorem bX3_count_74 {d n : Nat} {dy : Nat → Shp} {g : Hp} {P : Pst} {r1 : Nat} {r2 : Nat} {x3 : Int} {xs1 : Int} (hn : 100 ≤ n) (h : (0 ≤ xs1 ∧ xs1 < 1024) ∧ P (some (I_ (g 34 xs1.toNat))) n (W0 dy) g) : V miX3_count (d + 1) 74 [(0, .ref 18), (1, .ref r1), (2, .ref r2), (3, I_ x3)] [I_ xs1, .ref 34] n (W0 dy) g 0 0 P := by
  have c1 := h.1
  have h := h.2
  refine v_ia (N := 1024) 42 rfl (al 34 rfl hn) (wk34 dy) (wn34 dy) (by decide) c1 (y := g 34 xs1.toNat) rfl ?_
  refine v_rng fun w2 => ?_
  have p3 : i3 (g 34 xs1.toNat) := rI w2 (q := xs1.toNat) (al 34 rfl hn) (wk34 dy) rfl rfl
  exact v_ret (v := some (I_ (g 34 xs1.toNat))) 43 rfl (Nat.zero_le _) (Nat.zero_le _) trivial rfl h
theorem wX3_count {d n : Nat} {dy : Nat → Shp} {g : Hp} {P : Pst} {r1 : Nat} {r2 : Nat} (hn : 100 ≤ n) (h : Runs miX3_takeNumbers d [.ref 18, .ref r2] n (W0 dy) g (fun v n' S' g' => V miX3_count (d + 1) 5 [(0, .ref 18), (1, .ref r1), (2, .ref r2)] (v.toList ++ []) n' S' g' 0 0 P)) : Runs miX3_count (d + 1) [.ref 18, .ref r1, .ref r2] n (W0 dy) g P := Runs.of rfl rfl deX3_count (Nat.le_of_ble_eq_true rfl) (bX3_count_0 hn h)
theorem fl3_15_2 : FL RX3 15 2 1 false .int := ⟨RX3, TX3, 11, "MobileMaker$Parting", rfl, rfl, by decide, kf2, tbG_in (List.mem_append_right _ (List.mem_of_getElem? (i := 139) (by decide +kernel))) rfl, Or.inl rfl, rfl, by decide +kernel, ⟨tyX3, tyX3_ok⟩, nmX3, fun h => by cases h⟩
theorem fl3_46_2 : FL RX3 46 2 10 true (.array .int) := ⟨RX3, TX3, 11, "MobileMaker$Parting", rfl, rfl, by decide, kf2, tbG_in (List.mem_append_right _ (List.mem_of_getElem? (i := 148) (by decide +kernel))) rfl, Or.inl rfl, rfl, by decide +kernel, ⟨tyX3, tyX3_ok⟩, nmX3, fun _ => rfl⟩
theorem lv3_68_firstPlaceOf_2 : LkV miX3_firstPlaceOf miX3_fullSet 68 0 2 := ⟨⟨⟨tbG_in (List.mem_append_right _ (List.mem_of_getElem? (i := 950) (by decide +kernel))) rfl, tbG_in (List.mem_append_right _ (List.mem_of_getElem? (i := 6) (by decide +kernel))) rfl, tbG_in (List.mem_append_right _ (List.mem_of_getElem? (i := 947) (by decide +kernel))) rfl⟩, ⟨by decide +kernel, by decide +kernel, by decide +kernel⟩, by decide⟩, tbG_in (List.mem_append_right _ (List.mem_of_getElem? (i := 949) (by decide +kernel))) rfl, RX3, TX3, 11, rfl, tbG_in (List.mem_append_left _ (List.mem_of_getElem? (i := 38) (by decide +kernel))) rfl⟩
set_option maxHeartbeats 8000000 in
set_option maxRecDepth 4000 in
theorem bX3_firstPlaceOf_0 {d n : Nat} {dy : Nat → Shp} {g : Hp} {P : Pst} {x1 : Int} (hn : 100 ≤ n) (h : (i3 x1) ∧ ((x1 < 0) → P (some (I_ ((-1)))) n (W0 dy) g) ∧ ((0 ≤ x1) → (((g 18 1) ≤ x1) → P (some (I_ ((-1)))) n (W0 dy) g) ∧ ((x1 < (g 18 1)) → Runs miX3_fullSet d [.ref 18] n (W0 dy) g (fun v n' S' g' => V miX3_firstPlaceOf (d + 1) 20 [(0, .ref 18), (1, I_ x1)] (v.toList ++ [.ref 35]) n' S' g' 0 0 P)))) : V miX3_firstPlaceOf (d + 1) 0 [(0, .ref 18), (1, I_ x1)] [] n (W0 dy) g 0 0 P := by
  refine v_iload_n 0 1 rfl rfl rfl ?_
  have c1 := h.1
  have h := h.2
  refine v_if_lt 1 rfl (tgt := 38) rfl c1 (fun q2 => ?_) (fun q2 => ?_)
  · have h := h.1 q2
    refine v_iconst 23 rfl ?_
    exact v_ret (v := some (I_ ((-1)))) 24 rfl (Nat.zero_le _) (Nat.zero_le _) trivial rfl h
  · have h := h.2 q2
    refine v_iload_n 2 1 rfl rfl rfl ?_
    refine v_aload_n 3 0 rfl rfl rfl ?_
    refine v_gI 4 rfl fl3_15_2.r (al 18 rfl hn) (wk18 dy) (by decide) rfl (wc18_1 dy) (x := g 18 1) rfl ?_
    refine v_rng fun w3 => ?_
    have p4 : i3 (g 18 1) := rI w3 (q := 1) (al 18 rfl hn) (wk18 dy) rfl rfl
    refine v_icmp_ge 5 rfl (tgt := 38) rfl c1 p4 (fun q5 => ?_) (fun q5 => ?_)
    · have h := h.1 q5
      refine v_iconst 23 rfl ?_
      exact v_ret (v := some (I_ ((-1)))) 24 rfl (Nat.zero_le _) (Nat.zero_le _) trivial rfl h
    · have h := h.2 q5
      refine v_aload_n 6 0 rfl rfl rfl ?_
      refine v_gK 7 rfl fl3_46_2.r (al 18 rfl hn) (wk18 dy) (by decide) rfl (r := 35) (wc18_10 dy) ?_
      refine v_aload_n 8 0 rfl rfl rfl ?_
      refine v_callV (st := [.ref 35]) [] 9 rfl lv3_68_firstPlaceOf_2 (al 18 rfl hn) (wk18 dy) (by decide) rfl (Nat.le_refl _) (Nat.le_refl _) ?_
      exact h
set_option maxHeartbeats 8000000 in
set_option maxRecDepth 4000 in
theorem bX3_firstPlaceOf_20 {d n : Nat} {dy : Nat → Shp} {g : Hp} {P : Pst} {x1 : Int} {xs1 : Int} (hn : 100 ≤ n) (h : (0 ≤ xs1 ∧ xs1 < 1024) ∧ P (some (I_ (and3 (shr3 (g 35 xs1.toNat) (3 * (((g 18 1) - 1) - x1))) 7))) n (W0 dy) g) : V miX3_firstPlaceOf (d + 1) 20 [(0, .ref 18), (1, I_ x1)] [I_ xs1, .ref 35] n (W0 dy) g 0 0 P := by
  have c1 := h.1
  have h := h.2
  refine v_ia (N := 1024) 10 rfl (al 35 rfl hn) (wk35 dy) (wn35 dy) (by decide) c1 (y := g 35 xs1.toNat) rfl ?_
  refine v_rng fun w2 => ?_
  have p3 : i3 (g 35 xs1.toNat) := rI w2 (q := xs1.toNat) (al 35 rfl hn) (wk35 dy) rfl rfl
  refine v_iconst 11 rfl ?_
  refine v_aload_n 12 0 rfl rfl rfl ?_
  refine v_gI 13 rfl fl3_15_2.r (al 18 rfl hn) (wk18 dy) (by decide) rfl (wc18_1 dy) (x := g 18 1) rfl ?_
  refine v_rng fun w4 => ?_
  have p5 : i3 (g 18 1) := rI w4 (q := 1) (al 18 rfl hn) (wk18 dy) rfl rfl
  refine v_iconst 14 rfl ?_
  refine v_isub 15 rfl ?_
  refine v_iload_n 16 1 rfl rfl rfl ?_
  refine v_isub 17 rfl ?_
  refine v_imul 18 rfl ?_
  refine v_ishr 19 rfl ?_
  refine v_bipush 20 rfl (by decide) ?_
  refine v_iand 21 rfl ?_
  refine v_goto 22 rfl (tgt := 39) rfl ?_
  exact v_ret (v := some (I_ (and3 (shr3 (g 35 xs1.toNat) (3 * (((g 18 1) - 1) - x1))) 7))) 24 rfl (Nat.zero_le _) (Nat.zero_le _) trivial rfl h
theorem wX3_firstPlaceOf {d n : Nat} {dy : Nat → Shp} {g : Hp} {P : Pst} {x1 : Int} (hn : 100 ≤ n) (h : (i3 x1) ∧ ((x1 < 0) → P (some (I_ ((-1)))) n (W0 dy) g) ∧ ((0 ≤ x1) → (((g 18 1) ≤ x1) → P (some (I_ ((-1)))) n (W0 dy) g) ∧ ((x1 < (g 18 1)) → Runs miX3_fullSet d [.ref 18] n (W0 dy) g (fun v n' S' g' => V miX3_firstPlaceOf (d + 1) 20 [(0, .ref 18), (1, I_ x1)] (v.toList ++ [.ref 35]) n' S' g' 0 0 P)))) : Runs miX3_firstPlaceOf (d + 1) [.ref 18, I_ x1] n (W0 dy) g P := Runs.of rfl rfl deX3_firstPlaceOf (Nat.le_of_ble_eq_true rfl) (bX3_firstPlaceOf_0 hn h)
