theorem fl11_298_1 : FL RX11 298 1 1 false .int := ⟨RX1, TX1, 3, "MobileMaker$Mobile", rfl, rfl, by decide, kf1, tbG_in (List.mem_append_right _ (List.mem_of_getElem? (i := 44) (by decide +kernel))) rfl, Or.inl rfl, rfl, by decide +kernel, ⟨tyX1, tyX1_ok⟩, nmX1, fun h => by cases h⟩
theorem fl11_299_1 : FR RX11 299 1 0 := ⟨RX1, TX1, 3, "MobileMaker$Mobile", rfl, rfl, by decide, kf1, tbG_in (List.mem_append_right _ (List.mem_of_getElem? (i := 42) (by decide +kernel))) rfl, Or.inl rfl⟩
theorem lv11_295_clashes_10 : LkV miX11_clashes miX11_wholeTopStatus 295 1 10 := ⟨⟨⟨tbG_in (List.mem_append_right _ (List.mem_of_getElem? (i := 815) (by decide +kernel))) rfl, tbG_in (List.mem_append_right _ (List.mem_of_getElem? (i := 1) (by decide +kernel))) rfl, tbG_in (List.mem_append_right _ (List.mem_of_getElem? (i := 812) (by decide +kernel))) rfl⟩, ⟨by decide +kernel, by decide +kernel, by decide +kernel⟩, by decide⟩, tbG_in (List.mem_append_right _ (List.mem_of_getElem? (i := 814) (by decide +kernel))) rfl, RX11, TX11, 13, rfl, tbG_in (List.mem_append_left _ (List.mem_of_getElem? (i := 20) (by decide +kernel))) rfl⟩
theorem lv11_302_clashes_10 : LkV miX11_clashes miX11_canMeet 302 3 10 := ⟨⟨⟨tbG_in (List.mem_append_right _ (List.mem_of_getElem? (i := 824) (by decide +kernel))) rfl, tbG_in (List.mem_append_right _ (List.mem_of_getElem? (i := 1) (by decide +kernel))) rfl, tbG_in (List.mem_append_right _ (List.mem_of_getElem? (i := 821) (by decide +kernel))) rfl⟩, ⟨by decide +kernel, by decide +kernel, by decide +kernel⟩, by decide⟩, tbG_in (List.mem_append_right _ (List.mem_of_getElem? (i := 823) (by decide +kernel))) rfl, RX11, TX11, 13, rfl, tbG_in (List.mem_append_left _ (List.mem_of_getElem? (i := 21) (by decide +kernel))) rfl⟩
set_option maxHeartbeats 8000000 in
set_option maxRecDepth 4000 in
theorem bX11_clashes_0 {d n : Nat} {dy : Nat → Shp} {g : Hp} {P : Pst} {x1 : Int} (hn : 100 ≤ n) (h : Runs miX11_wholeTopStatus d [.ref 1, I_ x1] n (W0 dy) g (fun v n' S' g' => V miX11_clashes (d + 1) 6 [(0, .ref 1), (1, I_ x1)] (v.toList ++ [.ref 1]) n' S' g' 0 0 P)) : V miX11_clashes (d + 1) 0 [(0, .ref 1), (1, I_ x1)] [] n (W0 dy) g 0 0 P := by
  refine v_aload_n 0 0 rfl rfl rfl ?_
  refine v_aload_n 1 0 rfl rfl rfl ?_
  refine v_iload_n 2 1 rfl rfl rfl ?_
  refine v_callV (st := [.ref 1]) [I_ x1] 3 rfl lv11_295_clashes_10 (al 1 rfl hn) (wk1 dy) (by decide) rfl (Nat.le_refl _) (Nat.le_refl _) ?_
  exact h
set_option maxHeartbeats 8000000 in
set_option maxRecDepth 4000 in
theorem bX11_clashes_6 {d n : Nat} {dy : Nat → Shp} {g : Hp} {P : Pst} {x1 : Int} {xs1 : Int} (hn : 100 ≤ n) (h : (i3 xs1) ∧ ((xs1 = 0) → V miX11_clashes (d + 1) 22 [(0, .ref 1), (1, I_ x1), (2, I_ 0), (3, I_ 0)] [] n (W0 dy) (up2 g 1 3 xs1) 0 0 P) ∧ ((xs1 ≠ 0) → P (some (I_ ((-1)))) n (W0 dy) (up2 g 1 3 xs1))) : V miX11_clashes (d + 1) 6 [(0, .ref 1), (1, I_ x1)] [I_ xs1, .ref 1] n (W0 dy) g 0 0 P := by
  have c1 := h.1
  have h := h.2
  refine v_putI 4 rfl fl11_25_10 (al 1 rfl hn) (wk1 dy) (by decide) rfl (wc1_3 dy) c1 ?_
  refine v_aload_n 5 0 rfl rfl rfl ?_
  refine v_gI 6 rfl fl11_25_10.r (al 1 rfl hn) (wk1 dy) (by decide) rfl (wc1_3 dy) (x := xs1) rfl ?_
  refine v_rng fun w2 => ?_
  have p3 : i3 (xs1) := rI w2 (q := 3) (al 1 rfl hn) (wk1 dy) rfl rfl
  refine v_if_eq 7 rfl (tgt := 18) rfl p3 (fun q4 => ?_) (fun q4 => ?_)
  · have h := h.1 q4
    refine v_iconst 10 rfl ?_
    refine v_istore_n 11 [1, 2, 0] rfl rfl (by decide) rfl ?_
    refine v_iconst 12 rfl ?_
    refine v_istore_n 13 [1, 2, 3, 0] rfl rfl (by decide) rfl ?_
    exact h
  · have h := h.2 q4
    refine v_iconst 8 rfl ?_
    exact v_ret (v := some (I_ ((-1)))) 9 rfl (Nat.zero_le _) (Nat.zero_le _) trivial rfl h
set_option maxHeartbeats 8000000 in
set_option maxRecDepth 4000 in
theorem bX11_clashes_22 {d n : Nat} {dy : Nat → Shp} {g : Hp} {P : Pst} {x1 : Int} {x2 : Int} {x3 : Int} (hn : 100 ≤ n) (h : (i3 x3) ∧ (((g 4 1) ≤ x3) → P (some (I_ x2)) n (W0 dy) g) ∧ ((x3 < (g 4 1)) → V miX11_clashes (d + 1) 38 [(0, .ref 1), (1, I_ x1), (2, I_ x2), (3, I_ x3), (4, I_ (x3 + 1))] [] n (W0 dy) g 0 0 P)) : V miX11_clashes (d + 1) 22 [(0, .ref 1), (1, I_ x1), (2, I_ x2), (3, I_ x3)] [] n (W0 dy) g 0 0 P := by
  refine v_iload_n 14 3 rfl rfl rfl ?_
  refine v_aload_n 15 0 rfl rfl rfl ?_
  refine v_gK 16 rfl fl11_31_10.r (al 1 rfl hn) (wk1 dy) (by decide) rfl (r := 4) (wc1_4 dy) ?_
  refine v_gI 17 rfl fl11_298_1.r (al 4 rfl hn) (wk4 dy) (by decide) rfl (wc4_1 dy) (x := g 4 1) rfl ?_
  refine v_rng fun w1 => ?_
  have p2 : i3 (g 4 1) := rI w1 (q := 1) (al 4 rfl hn) (wk4 dy) rfl rfl
  have c3 := h.1
  have h := h.2
  refine v_icmp_ge 18 rfl (tgt := 92) rfl c3 p2 (fun q4 => ?_) (fun q4 => ?_)
  · have h := h.1 q4
    refine v_iload_n 47 2 rfl rfl rfl ?_
    exact v_ret (v := some (I_ x2)) 48 rfl (Nat.zero_le _) (Nat.zero_le _) trivial rfl h
  · have h := h.2 q4
    refine v_iload_n 19 3 rfl rfl rfl ?_
    refine v_iconst 20 rfl ?_
    refine v_iadd 21 rfl ?_
    refine v_istore 22 [1, 2, 3, 4, 0] rfl (by decide) rfl ?_
    exact h
set_option maxHeartbeats 8000000 in
set_option maxRecDepth 4000 in
theorem bX11_clashes_38 {d n : Nat} {dy : Nat → Shp} {g : Hp} {P : Pst} {x1 : Int} {x2 : Int} {x3 : Int} {x4 : Int} (hn : 100 ≤ n) (h : (i3 x4) ∧ (((g 4 1) ≤ x4) → V miX11_clashes (d + 1) 22 [(0, .ref 1), (1, I_ x1), (2, I_ x2), (3, I_ (x3 + 1))] [] n (W0 dy) g 0 0 P) ∧ ((x4 < (g 4 1)) → (0 ≤ x3 ∧ x3 < 60) ∧ (0 ≤ x4 ∧ x4 < 60) ∧ Runs miX11_canMeet d [.ref 1, .ref ((g 5 x3.toNat).toNat), .ref ((g 5 x4.toNat).toNat), I_ 0] n (W0 dy) g (fun v n' S' g' => V miX11_clashes (d + 1) 74 [(0, .ref 1), (1, I_ x1), (2, I_ x2), (3, I_ x3), (4, I_ x4)] (v.toList ++ []) n' S' g' 0 0 P))) : V miX11_clashes (d + 1) 38 [(0, .ref 1), (1, I_ x1), (2, I_ x2), (3, I_ x3), (4, I_ x4)] [] n (W0 dy) g 0 0 P := by
  refine v_iload 23 4 rfl rfl ?_
  refine v_aload_n 24 0 rfl rfl rfl ?_
  refine v_gK 25 rfl fl11_31_10.r (al 1 rfl hn) (wk1 dy) (by decide) rfl (r := 4) (wc1_4 dy) ?_
  refine v_gI 26 rfl fl11_298_1.r (al 4 rfl hn) (wk4 dy) (by decide) rfl (wc4_1 dy) (x := g 4 1) rfl ?_
  refine v_rng fun w1 => ?_
  have p2 : i3 (g 4 1) := rI w1 (q := 1) (al 4 rfl hn) (wk4 dy) rfl rfl
  have c3 := h.1
  have h := h.2
  refine v_icmp_ge 27 rfl (tgt := 86) rfl c3 p2 (fun q4 => ?_) (fun q4 => ?_)
  · have h := h.1 q4
    refine v_iinc 45 3 [1, 2, 3, 0, 4] rfl rfl (by decide) rfl ?_
    refine v_goto 46 rfl (tgt := 22) rfl ?_
    refine v_loc [0, 1, 2, 3] rfl ?_
    exact h
  · have h := h.2 q4
    refine v_aload_n 28 0 rfl rfl rfl ?_
    refine v_aload_n 29 0 rfl rfl rfl ?_
    refine v_gK 30 rfl fl11_31_10.r (al 1 rfl hn) (wk1 dy) (by decide) rfl (r := 4) (wc1_4 dy) ?_
    refine v_gK 31 rfl fl11_299_1 (al 4 rfl hn) (wk4 dy) (by decide) rfl (r := 5) (wc4_0 dy) ?_
    refine v_iload_n 32 3 rfl rfl rfl ?_
    have c5 := h.1
    have h := h.2
    refine v_pa (N := 60) 33 rfl (al 5 rfl hn) (wk5 dy) (wn5 dy) (by decide) c5 (y := g 5 x3.toNat) rfl ?_
    refine v_aload_n 34 0 rfl rfl rfl ?_
    refine v_gK 35 rfl fl11_31_10.r (al 1 rfl hn) (wk1 dy) (by decide) rfl (r := 4) (wc1_4 dy) ?_
    refine v_gK 36 rfl fl11_299_1 (al 4 rfl hn) (wk4 dy) (by decide) rfl (r := 5) (wc4_0 dy) ?_
    refine v_iload 37 4 rfl rfl ?_
    have c6 := h.1
    have h := h.2
    refine v_pa (N := 60) 38 rfl (al 5 rfl hn) (wk5 dy) (wn5 dy) (by decide) c6 (y := g 5 x4.toNat) rfl ?_
    refine v_iconst 39 rfl ?_
    refine v_callV (st := []) [.ref ((g 5 x3.toNat).toNat), .ref ((g 5 x4.toNat).toNat), I_ 0] 40 rfl lv11_302_clashes_10 (al 1 rfl hn) (wk1 dy) (by decide) rfl (Nat.le_refl _) (Nat.le_refl _) ?_
    exact h
set_option maxHeartbeats 8000000 in
set_option maxRecDepth 4000 in
theorem bX11_clashes_74 {d n : Nat} {dy : Nat → Shp} {g : Hp} {P : Pst} {x1 : Int} {x2 : Int} {x3 : Int} {x4 : Int} {xs0 : Int} (hn : 100 ≤ n) (h : (i3 xs0) ∧ ((xs0 = 0) → V miX11_clashes (d + 1) 38 [(0, .ref 1), (1, I_ x1), (2, I_ x2), (3, I_ x3), (4, I_ (x4 + 1))] [] n (W0 dy) g 0 0 P) ∧ ((xs0 ≠ 0) → V miX11_clashes (d + 1) 38 [(0, .ref 1), (1, I_ x1), (2, I_ (x2 + 1)), (3, I_ x3), (4, I_ (x4 + 1))] [] n (W0 dy) g 0 0 P)) : V miX11_clashes (d + 1) 74 [(0, .ref 1), (1, I_ x1), (2, I_ x2), (3, I_ x3), (4, I_ x4)] [I_ xs0] n (W0 dy) g 0 0 P := by
  have c1 := h.1
  have h := h.2
  refine v_if_eq 41 rfl (tgt := 80) rfl c1 (fun q2 => ?_) (fun q2 => ?_)
  · have h := h.1 q2
    refine v_iinc 43 4 [1, 2, 3, 4, 0] rfl rfl (by decide) rfl ?_
    refine v_goto 44 rfl (tgt := 38) rfl ?_
    exact h
  · have h := h.2 q2
    refine v_iinc 42 2 [1, 2, 0, 3, 4] rfl rfl (by decide) rfl ?_
    refine v_iinc 43 4 [1, 2, 3, 4, 0] rfl rfl (by decide) rfl ?_
    refine v_goto 44 rfl (tgt := 38) rfl ?_
    exact h
theorem wX11_clashes {d n : Nat} {dy : Nat → Shp} {g : Hp} {P : Pst} {x1 : Int} (hn : 100 ≤ n) (h : Runs miX11_wholeTopStatus d [.ref 1, I_ x1] n (W0 dy) g (fun v n' S' g' => V miX11_clashes (d + 1) 6 [(0, .ref 1), (1, I_ x1)] (v.toList ++ [.ref 1]) n' S' g' 0 0 P)) : Runs miX11_clashes (d + 1) [.ref 1, I_ x1] n (W0 dy) g P := Runs.of rfl rfl deX11_clashes (Nat.le_of_ble_eq_true rfl) (bX11_clashes_0 hn h)
theorem fl11_55_10 : FL RX11 55 10 8 true (.object "MobileMaker$Clearing") := ⟨RX11, TX11, 13, "MobileMaker", rfl, rfl, by decide, kf10, tbG_in (List.mem_append_right _ (List.mem_of_getElem? (i := 224) (by decide +kernel))) rfl, Or.inl rfl, rfl, by decide +kernel, ⟨tyX11, tyX11_ok⟩, nmX11, fun _ => rfl⟩
theorem lv11_295_clear_10 : LkV miX11_clear miX11_wholeTopStatus 295 1 10 := ⟨⟨⟨tbG_in (List.mem_append_right _ (List.mem_of_getElem? (i := 815) (by decide +kernel))) rfl, tbG_in (List.mem_append_right _ (List.mem_of_getElem? (i := 1) (by decide +kernel))) rfl, tbG_in (List.mem_append_right _ (List.mem_of_getElem? (i := 812) (by decide +kernel))) rfl⟩, ⟨by decide +kernel, by decide +kernel, by decide +kernel⟩, by decide⟩, tbG_in (List.mem_append_right _ (List.mem_of_getElem? (i := 814) (by decide +kernel))) rfl, RX11, TX11, 13, rfl, tbG_in (List.mem_append_left _ (List.mem_of_getElem? (i := 20) (by decide +kernel))) rfl⟩
theorem lv11_306_clear_10 : LkV miX11_clear miX11_prepareClearing 306 0 10 := ⟨⟨⟨tbG_in (List.mem_append_right _ (List.mem_of_getElem? (i := 833) (by decide +kernel))) rfl, tbG_in (List.mem_append_right _ (List.mem_of_getElem? (i := 1) (by decide +kernel))) rfl, tbG_in (List.mem_append_right _ (List.mem_of_getElem? (i := 830) (by decide +kernel))) rfl⟩, ⟨by decide +kernel, by decide +kernel, by decide +kernel⟩, by decide⟩, tbG_in (List.mem_append_right _ (List.mem_of_getElem? (i := 832) (by decide +kernel))) rfl, RX11, TX11, 13, rfl, tbG_in (List.mem_append_left _ (List.mem_of_getElem? (i := 22) (by decide +kernel))) rfl⟩
theorem lv11_135_clear_10 : LkV miX11_clear miX11_none 135 1 10 := ⟨⟨⟨tbG_in (List.mem_append_right _ (List.mem_of_getElem? (i := 336) (by decide +kernel))) rfl, tbG_in (List.mem_append_right _ (List.mem_of_getElem? (i := 1) (by decide +kernel))) rfl, tbG_in (List.mem_append_right _ (List.mem_of_getElem? (i := 333) (by decide +kernel))) rfl⟩, ⟨by decide +kernel, by decide +kernel, by decide +kernel⟩, by decide⟩, tbG_in (List.mem_append_right _ (List.mem_of_getElem? (i := 335) (by decide +kernel))) rfl, RX11, TX11, 13, rfl, tbG_in (List.mem_append_left _ (List.mem_of_getElem? (i := 4) (by decide +kernel))) rfl⟩
theorem lv11_309_clear_0 : LkV miX11_clear miX0_search 309 1 0 := ⟨⟨⟨tbG_in (List.mem_append_right _ (List.mem_of_getElem? (i := 854) (by decide +kernel))) rfl, tbG_in (List.mem_append_right _ (List.mem_of_getElem? (i := 5) (by decide +kernel))) rfl, tbG_in (List.mem_append_right _ (List.mem_of_getElem? (i := 851) (by decide +kernel))) rfl⟩, ⟨by decide +kernel, by decide +kernel, by decide +kernel⟩, by decide⟩, tbG_in (List.mem_append_right _ (List.mem_of_getElem? (i := 852) (by decide +kernel))) rfl, RX0, TX0, 11, rfl, tbG_in (List.mem_append_right _ (List.mem_of_getElem? (i := 853) (by decide +kernel))) rfl⟩
theorem lv11_312_clear_0 : LkV miX11_clear miX0_lengthenThreads 312 0 0 := ⟨⟨⟨tbG_in (List.mem_append_right _ (List.mem_of_getElem? (i := 871) (by decide +kernel))) rfl, tbG_in (List.mem_append_right _ (List.mem_of_getElem? (i := 5) (by decide +kernel))) rfl, tbG_in (List.mem_append_right _ (List.mem_of_getElem? (i := 868) (by decide +kernel))) rfl⟩, ⟨by decide +kernel, by decide +kernel, by decide +kernel⟩, by decide⟩, tbG_in (List.mem_append_right _ (List.mem_of_getElem? (i := 869) (by decide +kernel))) rfl, RX0, TX0, 11, rfl, tbG_in (List.mem_append_right _ (List.mem_of_getElem? (i := 870) (by decide +kernel))) rfl⟩
set_option maxHeartbeats 8000000 in
set_option maxRecDepth 4000 in
theorem bX11_clear_0 {d n : Nat} {dy : Nat → Shp} {g : Hp} {P : Pst} {x1 : Int} (hn : 100 ≤ n) (h : Runs miX11_wholeTopStatus d [.ref 1, I_ x1] n (W0 dy) g (fun v n' S' g' => V miX11_clear (d + 1) 6 [(0, .ref 1), (1, I_ x1)] (v.toList ++ [.ref 1]) n' S' g' 0 0 P)) : V miX11_clear (d + 1) 0 [(0, .ref 1), (1, I_ x1)] [] n (W0 dy) g 0 0 P := by
  refine v_aload_n 0 0 rfl rfl rfl ?_
  refine v_aload_n 1 0 rfl rfl rfl ?_
  refine v_iload_n 2 1 rfl rfl rfl ?_
  refine v_callV (st := [.ref 1]) [I_ x1] 3 rfl lv11_295_clear_10 (al 1 rfl hn) (wk1 dy) (by decide) rfl (Nat.le_refl _) (Nat.le_refl _) ?_
  exact h
set_option maxHeartbeats 8000000 in
set_option maxRecDepth 4000 in
theorem bX11_clear_6 {d n : Nat} {dy : Nat → Shp} {g : Hp} {P : Pst} {x1 : Int} {xs1 : Int} (hn : 100 ≤ n) (h : (i3 xs1) ∧ ((xs1 = 0) → Runs miX11_prepareClearing d [.ref 1] n (W0 dy) (up2 g 1 3 xs1) (fun v n' S' g' => V miX11_clear (d + 1) 22 [(0, .ref 1), (1, I_ x1)] (v.toList ++ []) n' S' g' 0 0 P)) ∧ ((xs1 ≠ 0) → P (some (I_ ((-1)))) n (W0 dy) (up2 g 1 3 xs1))) : V miX11_clear (d + 1) 6 [(0, .ref 1), (1, I_ x1)] [I_ xs1, .ref 1] n (W0 dy) g 0 0 P := by
  have c1 := h.1
  have h := h.2
  refine v_putI 4 rfl fl11_25_10 (al 1 rfl hn) (wk1 dy) (by decide) rfl (wc1_3 dy) c1 ?_
  refine v_aload_n 5 0 rfl rfl rfl ?_
  refine v_gI 6 rfl fl11_25_10.r (al 1 rfl hn) (wk1 dy) (by decide) rfl (wc1_3 dy) (x := xs1) rfl ?_
  refine v_rng fun w2 => ?_
  have p3 : i3 (xs1) := rI w2 (q := 3) (al 1 rfl hn) (wk1 dy) rfl rfl
  refine v_if_eq 7 rfl (tgt := 18) rfl p3 (fun q4 => ?_) (fun q4 => ?_)
  · have h := h.1 q4
    refine v_aload_n 10 0 rfl rfl rfl ?_
    refine v_callV (st := []) [] 11 rfl lv11_306_clear_10 (al 1 rfl hn) (wk1 dy) (by decide) rfl (Nat.le_refl _) (Nat.le_refl _) ?_
    exact h
  · have h := h.2 q4
    refine v_iconst 8 rfl ?_
    exact v_ret (v := some (I_ ((-1)))) 9 rfl (Nat.zero_le _) (Nat.zero_le _) trivial rfl h
set_option maxHeartbeats 8000000 in
set_option maxRecDepth 4000 in
theorem bX11_clear_22 {d n : Nat} {dy : Nat → Shp} {g : Hp} {P : Pst} {x1 : Int} (hn : 100 ≤ n) (h : V miX11_clear (d + 1) 24 [(0, .ref 1), (1, I_ x1), (2, I_ 0)] [] n (W0 dy) g 0 0 P) : V miX11_clear (d + 1) 22 [(0, .ref 1), (1, I_ x1)] [] n (W0 dy) g 0 0 P := by
  refine v_iconst 12 rfl ?_
  refine v_istore_n 13 [1, 2, 0] rfl rfl (by decide) rfl ?_
  exact h
set_option maxHeartbeats 8000000 in
set_option maxRecDepth 4000 in
theorem bX11_clear_24 {d n : Nat} {dy : Nat → Shp} {g : Hp} {P : Pst} {x1 : Int} {x2 : Int} (hn : 100 ≤ n) (h : (i3 x2) ∧ ((5 < x2) → Runs miX11_none d [.ref 1, I_ 11] n (W0 dy) g (fun v n' S' g' => V miX11_clear (d + 1) 76 [(0, .ref 1), (1, I_ x1), (2, I_ x2)] (v.toList ++ []) n' S' g' 0 0 P)) ∧ ((x2 ≤ 5) → Runs miX0_search d [.ref 11, I_ x2] n (W0 dy) g (fun v n' S' g' => V miX11_clear (d + 1) 37 [(0, .ref 1), (1, I_ x1), (2, I_ x2)] (v.toList ++ []) n' S' g' 0 0 P))) : V miX11_clear (d + 1) 24 [(0, .ref 1), (1, I_ x1), (2, I_ x2)] [] n (W0 dy) g 0 0 P := by
  refine v_iload_n 14 2 rfl rfl rfl ?_
  refine v_iconst 15 rfl ?_
  have c1 := h.1
  have h := h.2
  refine v_icmp_gt 16 rfl (tgt := 70) rfl c1 (by decide) (fun q2 => ?_) (fun q2 => ?_)
  · have h := h.1 q2
    refine v_aload_n 39 0 rfl rfl rfl ?_
    refine v_bipush 40 rfl (by decide) ?_
    refine v_callV (st := []) [I_ 11] 41 rfl lv11_135_clear_10 (al 1 rfl hn) (wk1 dy) (by decide) rfl (Nat.le_refl _) (Nat.le_refl _) ?_
    exact h
  · have h := h.2 q2
    refine v_aload_n 17 0 rfl rfl rfl ?_
    refine v_gK 18 rfl fl11_55_10.r (al 1 rfl hn) (wk1 dy) (by decide) rfl (r := 11) (wc1_8 dy) ?_
    refine v_iload_n 19 2 rfl rfl rfl ?_
    refine v_callV (st := []) [I_ x2] 20 rfl lv11_309_clear_0 (al 11 rfl hn) (wk11 dy) (by decide) rfl (Nat.le_refl _) (Nat.le_refl _) ?_
    exact h
set_option maxHeartbeats 8000000 in
set_option maxRecDepth 4000 in
theorem bX11_clear_37 {d n : Nat} {dy : Nat → Shp} {g : Hp} {P : Pst} {x1 : Int} {x2 : Int} {xs0 : Int} (hn : 100 ≤ n) (h : (i3 xs0) ∧ ((xs0 ≠ 1) → ((xs0 ≠ 2) → V miX11_clear (d + 1) 24 [(0, .ref 1), (1, I_ x1), (2, I_ (x2 + 1))] [] n (W0 dy) g 0 0 P) ∧ ((xs0 = 2) → Runs miX11_none d [.ref 1, I_ 10] n (W0 dy) g (fun v n' S' g' => V miX11_clear (d + 1) 63 [(0, .ref 1), (1, I_ x1), (2, I_ x2), (3, I_ xs0)] (v.toList ++ []) n' S' g' 0 0 P))) ∧ ((xs0 = 1) → Runs miX0_lengthenThreads d [.ref 11] n (W0 dy) g (fun v n' S' g' => V miX11_clear (d + 1) 50 [(0, .ref 1), (1, I_ x1), (2, I_ x2), (3, I_ xs0)] (v.toList ++ []) n' S' g' 0 0 P))) : V miX11_clear (d + 1) 37 [(0, .ref 1), (1, I_ x1), (2, I_ x2)] [I_ xs0] n (W0 dy) g 0 0 P := by
  refine v_istore_n 21 [1, 2, 3, 0] rfl rfl (by decide) rfl ?_
  refine v_iload_n 22 3 rfl rfl rfl ?_
  refine v_iconst 23 rfl ?_
  have c1 := h.1
  have h := h.2
  refine v_icmp_ne 24 rfl (tgt := 52) rfl c1 (by decide) (fun q2 => ?_) (fun q2 => ?_)
  · have h := h.1 q2
    refine v_iload_n 30 3 rfl rfl rfl ?_
    refine v_iconst 31 rfl ?_
    refine v_icmp_ne 32 rfl (tgt := 64) rfl c1 (by decide) (fun q3 => ?_) (fun q3 => ?_)
    · have h := h.1 q3
      refine v_iinc 37 2 [1, 2, 0, 3] rfl rfl (by decide) rfl ?_
      refine v_goto 38 rfl (tgt := 24) rfl ?_
      refine v_loc [0, 1, 2] rfl ?_
      exact h
    · have h := h.2 q3
      refine v_aload_n 33 0 rfl rfl rfl ?_
      refine v_bipush 34 rfl (by decide) ?_
      refine v_callV (st := []) [I_ 10] 35 rfl lv11_135_clear_10 (al 1 rfl hn) (wk1 dy) (by decide) rfl (Nat.le_refl _) (Nat.le_refl _) ?_
      exact h
  · have h := h.2 q2
    refine v_aload_n 25 0 rfl rfl rfl ?_
    refine v_gK 26 rfl fl11_55_10.r (al 1 rfl hn) (wk1 dy) (by decide) rfl (r := 11) (wc1_8 dy) ?_
    refine v_callV (st := []) [] 27 rfl lv11_312_clear_0 (al 11 rfl hn) (wk11 dy) (by decide) rfl (Nat.le_refl _) (Nat.le_refl _) ?_
    exact h
set_option maxHeartbeats 8000000 in
set_option maxRecDepth 4000 in
theorem bX11_clear_50 {d n : Nat} {dy : Nat → Shp} {g : Hp} {P : Pst} {x1 : Int} {x2 : Int} {x3 : Int} (hn : 100 ≤ n) (h : P (some (I_ x2)) n (W0 dy) g) : V miX11_clear (d + 1) 50 [(0, .ref 1), (1, I_ x1), (2, I_ x2), (3, I_ x3)] [] n (W0 dy) g 0 0 P := by
  refine v_iload_n 28 2 rfl rfl rfl ?_
  exact v_ret (v := some (I_ x2)) 29 rfl (Nat.zero_le _) (Nat.zero_le _) trivial rfl h
set_option maxHeartbeats 8000000 in
set_option maxRecDepth 4000 in
theorem bX11_clear_63 {d n : Nat} {dy : Nat → Shp} {g : Hp} {P : Pst} {x1 : Int} {x2 : Int} {x3 : Int} {xs0 : Int} (hn : 100 ≤ n) (h : P (some (I_ xs0)) n (W0 dy) g) : V miX11_clear (d + 1) 63 [(0, .ref 1), (1, I_ x1), (2, I_ x2), (3, I_ x3)] [I_ xs0] n (W0 dy) g 0 0 P := by
  exact v_ret (v := some (I_ xs0)) 36 rfl (Nat.zero_le _) (Nat.zero_le _) trivial rfl h
set_option maxHeartbeats 8000000 in
set_option maxRecDepth 4000 in
theorem bX11_clear_76 {d n : Nat} {dy : Nat → Shp} {g : Hp} {P : Pst} {x1 : Int} {x2 : Int} {xs0 : Int} (hn : 100 ≤ n) (h : P (some (I_ xs0)) n (W0 dy) g) : V miX11_clear (d + 1) 76 [(0, .ref 1), (1, I_ x1), (2, I_ x2)] [I_ xs0] n (W0 dy) g 0 0 P := by
  exact v_ret (v := some (I_ xs0)) 42 rfl (Nat.zero_le _) (Nat.zero_le _) trivial rfl h
theorem wX11_clear {d n : Nat} {dy : Nat → Shp} {g : Hp} {P : Pst} {x1 : Int} (hn : 100 ≤ n) (h : Runs miX11_wholeTopStatus d [.ref 1, I_ x1] n (W0 dy) g (fun v n' S' g' => V miX11_clear (d + 1) 6 [(0, .ref 1), (1, I_ x1)] (v.toList ++ [.ref 1]) n' S' g' 0 0 P)) : Runs miX11_clear (d + 1) [.ref 1, I_ x1] n (W0 dy) g P := Runs.of rfl rfl deX11_clear (Nat.le_of_ble_eq_true rfl) (bX11_clear_0 hn h)
theorem lv11_315_ways_10 : LkV miX11_ways miX11_givenStatus 315 2 10 := ⟨⟨⟨tbG_in (List.mem_append_right _ (List.mem_of_getElem? (i := 879) (by decide +kernel))) rfl, tbG_in (List.mem_append_right _ (List.mem_of_getElem? (i := 1) (by decide +kernel))) rfl, tbG_in (List.mem_append_right _ (List.mem_of_getElem? (i := 876) (by decide +kernel))) rfl⟩, ⟨by decide +kernel, by decide +kernel, by decide +kernel⟩, by decide⟩, tbG_in (List.mem_append_right _ (List.mem_of_getElem? (i := 878) (by decide +kernel))) rfl, RX11, TX11, 13, rfl, tbG_in (List.mem_append_left _ (List.mem_of_getElem? (i := 26) (by decide +kernel))) rfl⟩
theorem lv11_163_ways_10 : LkV miX11_ways miX11_partAt 163 1 10 := ⟨⟨⟨tbG_in (List.mem_append_right _ (List.mem_of_getElem? (i := 600) (by decide +kernel))) rfl, tbG_in (List.mem_append_right _ (List.mem_of_getElem? (i := 1) (by decide +kernel))) rfl, tbG_in (List.mem_append_right _ (List.mem_of_getElem? (i := 597) (by decide +kernel))) rfl⟩, ⟨by decide +kernel, by decide +kernel, by decide +kernel⟩, by decide⟩, tbG_in (List.mem_append_right _ (List.mem_of_getElem? (i := 599) (by decide +kernel))) rfl, RX11, TX11, 13, rfl, tbG_in (List.mem_append_left _ (List.mem_of_getElem? (i := 13) (by decide +kernel))) rfl⟩
theorem lv11_81_ways_10 : LkV miX11_ways miX11_trayAt 81 1 10 := ⟨⟨⟨tbG_in (List.mem_append_right _ (List.mem_of_getElem? (i := 267) (by decide +kernel))) rfl, tbG_in (List.mem_append_right _ (List.mem_of_getElem? (i := 1) (by decide +kernel))) rfl, tbG_in (List.mem_append_right _ (List.mem_of_getElem? (i := 264) (by decide +kernel))) rfl⟩, ⟨by decide +kernel, by decide +kernel, by decide +kernel⟩, by decide⟩, tbG_in (List.mem_append_right _ (List.mem_of_getElem? (i := 266) (by decide +kernel))) rfl, RX11, TX11, 13, rfl, tbG_in (List.mem_append_left _ (List.mem_of_getElem? (i := 0) (by decide +kernel))) rfl⟩
theorem lv11_319_ways_10 : LkV miX11_ways miX11_shapeStatus 319 2 10 := ⟨⟨⟨tbG_in (List.mem_append_right _ (List.mem_of_getElem? (i := 883) (by decide +kernel))) rfl, tbG_in (List.mem_append_right _ (List.mem_of_getElem? (i := 1) (by decide +kernel))) rfl, tbG_in (List.mem_append_right _ (List.mem_of_getElem? (i := 880) (by decide +kernel))) rfl⟩, ⟨by decide +kernel, by decide +kernel, by decide +kernel⟩, by decide⟩, tbG_in (List.mem_append_right _ (List.mem_of_getElem? (i := 882) (by decide +kernel))) rfl, RX11, TX11, 13, rfl, tbG_in (List.mem_append_left _ (List.mem_of_getElem? (i := 27) (by decide +kernel))) rfl⟩
theorem lv11_323_ways_10 : LkV miX11_ways miX11_waysFound 323 2 10 := ⟨⟨⟨tbG_in (List.mem_append_right _ (List.mem_of_getElem? (i := 899) (by decide +kernel))) rfl, tbG_in (List.mem_append_right _ (List.mem_of_getElem? (i := 1) (by decide +kernel))) rfl, tbG_in (List.mem_append_right _ (List.mem_of_getElem? (i := 896) (by decide +kernel))) rfl⟩, ⟨by decide +kernel, by decide +kernel, by decide +kernel⟩, by decide⟩, tbG_in (List.mem_append_right _ (List.mem_of_getElem? (i := 898) (by decide +kernel))) rfl, RX11, TX11, 13, rfl, tbG_in (List.mem_append_left _ (List.mem_of_getElem? (i := 28) (by decide +kernel))) rfl⟩
set_option maxHeartbeats 8000000 in
set_option maxRecDepth 4000 in
theorem bX11_ways_0 {d n : Nat} {dy : Nat → Shp} {g : Hp} {P : Pst} {x1 : Int} {x2 : Int} (hn : 100 ≤ n) (h : Runs miX11_givenStatus d [.ref 1, I_ x1, I_ x2] n (W0 dy) g (fun v n' S' g' => V miX11_ways (d + 1) 6 [(0, .ref 1), (1, I_ x1), (2, I_ x2)] (v.toList ++ []) n' S' g' 0 0 P)) : V miX11_ways (d + 1) 0 [(0, .ref 1), (1, I_ x1), (2, I_ x2)] [] n (W0 dy) g 0 0 P := by
  refine v_aload_n 0 0 rfl rfl rfl ?_
  refine v_iload_n 1 1 rfl rfl rfl ?_
  refine v_iload_n 2 2 rfl rfl rfl ?_
  refine v_callV (st := []) [I_ x1, I_ x2] 3 rfl lv11_315_ways_10 (al 1 rfl hn) (wk1 dy) (by decide) rfl (Nat.le_refl _) (Nat.le_refl _) ?_
  exact h
set_option maxHeartbeats 8000000 in
set_option maxRecDepth 4000 in
theorem bX11_ways_6 {d n : Nat} {dy : Nat → Shp} {g : Hp} {P : Pst} {x1 : Int} {x2 : Int} {xs0 : Int} (hn : 100 ≤ n) (h : (i3 xs0) ∧ ((xs0 ≠ 0) → ((xs0 ≠ 0) → P (some (I_ ((-1)))) n (W0 dy) (up2 g 1 3 xs0)) ∧ ((xs0 = 0) → Runs miX11_partAt d [.ref 1, I_ x1] n (W0 dy) (up2 g 1 3 xs0) (fun v n' S' g' => V miX11_ways (d + 1) 46 [(0, .ref 1), (1, I_ x1), (2, I_ x2), (3, I_ xs0)] (v.toList ++ [.ref 1]) n' S' g' 0 0 P))) ∧ ((xs0 = 0) → Runs miX11_partAt d [.ref 1, I_ x1] n (W0 dy) g (fun v n' S' g' => V miX11_ways (d + 1) 18 [(0, .ref 1), (1, I_ x1), (2, I_ x2), (3, I_ xs0)] (v.toList ++ [.ref 1, .ref 1]) n' S' g' 0 0 P))) : V miX11_ways (d + 1) 6 [(0, .ref 1), (1, I_ x1), (2, I_ x2)] [I_ xs0] n (W0 dy) g 0 0 P := by
  refine v_istore_n 4 [1, 2, 3, 0] rfl rfl (by decide) rfl ?_
  refine v_aload_n 5 0 rfl rfl rfl ?_
  refine v_iload_n 6 3 rfl rfl rfl ?_
  have c1 := h.1
  have h := h.2
  refine v_if_ne 7 rfl (tgt := 29) rfl c1 (fun q2 => ?_) (fun q2 => ?_)
  · have h := h.1 q2
    refine v_iload_n 17 3 rfl rfl rfl ?_
    refine v_putI 18 rfl fl11_25_10 (al 1 rfl hn) (wk1 dy) (by decide) rfl (wc1_3 dy) c1 ?_
    refine v_aload_n 19 0 rfl rfl rfl ?_
    refine v_gI 20 rfl fl11_25_10.r (al 1 rfl hn) (wk1 dy) (by decide) rfl (wc1_3 dy) (x := xs0) rfl ?_
    refine v_rng fun w3 => ?_
    have p4 : i3 (xs0) := rI w3 (q := 3) (al 1 rfl hn) (wk1 dy) rfl rfl
    refine v_if_ne 21 rfl (tgt := 57) rfl p4 (fun q5 => ?_) (fun q5 => ?_)
    · have h := h.1 q5
      refine v_iconst 31 rfl ?_
      exact v_ret (v := some (I_ ((-1)))) 32 rfl (Nat.zero_le _) (Nat.zero_le _) trivial rfl h
    · have h := h.2 q5
      refine v_aload_n 22 0 rfl rfl rfl ?_
      refine v_aload_n 23 0 rfl rfl rfl ?_
      refine v_iload_n 24 1 rfl rfl rfl ?_
      refine v_callV (st := [.ref 1]) [I_ x1] 25 rfl lv11_163_ways_10 (al 1 rfl hn) (wk1 dy) (by decide) rfl (Nat.le_refl _) (Nat.le_refl _) ?_
      exact h
  · have h := h.2 q2
    refine v_aload_n 8 0 rfl rfl rfl ?_
    refine v_aload_n 9 0 rfl rfl rfl ?_
    refine v_iload_n 10 1 rfl rfl rfl ?_
    refine v_callV (st := [.ref 1, .ref 1]) [I_ x1] 11 rfl lv11_163_ways_10 (al 1 rfl hn) (wk1 dy) (by decide) rfl (Nat.le_refl _) (Nat.le_refl _) ?_
    exact h
set_option maxHeartbeats 8000000 in
set_option maxRecDepth 4000 in
theorem bX11_ways_18 {d n : Nat} {dy : Nat → Shp} {g : Hp} {P : Pst} {x1 : Int} {x2 : Int} {x3 : Int} {rs2 : Nat} (hn : 100 ≤ n) (h : Runs miX11_trayAt d [.ref 1, I_ x2] n (W0 dy) g (fun v n' S' g' => V miX11_ways (d + 1) 23 [(0, .ref 1), (1, I_ x1), (2, I_ x2), (3, I_ x3)] (v.toList ++ [.ref rs2, .ref 1, .ref 1]) n' S' g' 0 0 P)) : V miX11_ways (d + 1) 18 [(0, .ref 1), (1, I_ x1), (2, I_ x2), (3, I_ x3)] [.ref rs2, .ref 1, .ref 1] n (W0 dy) g 0 0 P := by
  refine v_aload_n 12 0 rfl rfl rfl ?_
  refine v_iload_n 13 2 rfl rfl rfl ?_
  refine v_callV (st := [.ref rs2, .ref 1, .ref 1]) [I_ x2] 14 rfl lv11_81_ways_10 (al 1 rfl hn) (wk1 dy) (by decide) rfl (Nat.le_refl _) (Nat.le_refl _) ?_
  exact h
set_option maxHeartbeats 8000000 in
set_option maxRecDepth 4000 in
theorem bX11_ways_23 {d n : Nat} {dy : Nat → Shp} {g : Hp} {P : Pst} {x1 : Int} {x2 : Int} {x3 : Int} {rs2 : Nat} {rs3 : Nat} (hn : 100 ≤ n) (h : Runs miX11_shapeStatus d [.ref 1, .ref rs2, .ref rs3] n (W0 dy) g (fun v n' S' g' => V miX11_ways (d + 1) 26 [(0, .ref 1), (1, I_ x1), (2, I_ x2), (3, I_ x3)] (v.toList ++ [.ref 1]) n' S' g' 0 0 P)) : V miX11_ways (d + 1) 23 [(0, .ref 1), (1, I_ x1), (2, I_ x2), (3, I_ x3)] [.ref rs3, .ref rs2, .ref 1, .ref 1] n (W0 dy) g 0 0 P := by
  refine v_callV (st := [.ref 1]) [.ref rs2, .ref rs3] 15 rfl lv11_319_ways_10 (al 1 rfl hn) (wk1 dy) (by decide) rfl (Nat.le_refl _) (Nat.le_refl _) ?_
  exact h
set_option maxHeartbeats 8000000 in
set_option maxRecDepth 4000 in
theorem bX11_ways_26 {d n : Nat} {dy : Nat → Shp} {g : Hp} {P : Pst} {x1 : Int} {x2 : Int} {x3 : Int} {xs1 : Int} (hn : 100 ≤ n) (h : (i3 xs1) ∧ ((xs1 ≠ 0) → P (some (I_ ((-1)))) n (W0 dy) (up2 g 1 3 xs1)) ∧ ((xs1 = 0) → Runs miX11_partAt d [.ref 1, I_ x1] n (W0 dy) (up2 g 1 3 xs1) (fun v n' S' g' => V miX11_ways (d + 1) 46 [(0, .ref 1), (1, I_ x1), (2, I_ x2), (3, I_ x3)] (v.toList ++ [.ref 1]) n' S' g' 0 0 P))) : V miX11_ways (d + 1) 26 [(0, .ref 1), (1, I_ x1), (2, I_ x2), (3, I_ x3)] [I_ xs1, .ref 1] n (W0 dy) g 0 0 P := by
  refine v_goto 16 rfl (tgt := 30) rfl ?_
  have c1 := h.1
  have h := h.2
  refine v_putI 18 rfl fl11_25_10 (al 1 rfl hn) (wk1 dy) (by decide) rfl (wc1_3 dy) c1 ?_
  refine v_aload_n 19 0 rfl rfl rfl ?_
  refine v_gI 20 rfl fl11_25_10.r (al 1 rfl hn) (wk1 dy) (by decide) rfl (wc1_3 dy) (x := xs1) rfl ?_
  refine v_rng fun w2 => ?_
  have p3 : i3 (xs1) := rI w2 (q := 3) (al 1 rfl hn) (wk1 dy) rfl rfl
  refine v_if_ne 21 rfl (tgt := 57) rfl p3 (fun q4 => ?_) (fun q4 => ?_)
  · have h := h.1 q4
    refine v_iconst 31 rfl ?_
    exact v_ret (v := some (I_ ((-1)))) 32 rfl (Nat.zero_le _) (Nat.zero_le _) trivial rfl h
  · have h := h.2 q4
    refine v_aload_n 22 0 rfl rfl rfl ?_
    refine v_aload_n 23 0 rfl rfl rfl ?_
    refine v_iload_n 24 1 rfl rfl rfl ?_
    refine v_callV (st := [.ref 1]) [I_ x1] 25 rfl lv11_163_ways_10 (al 1 rfl hn) (wk1 dy) (by decide) rfl (Nat.le_refl _) (Nat.le_refl _) ?_
    exact h
set_option maxHeartbeats 8000000 in
set_option maxRecDepth 4000 in
theorem bX11_ways_46 {d n : Nat} {dy : Nat → Shp} {g : Hp} {P : Pst} {x1 : Int} {x2 : Int} {x3 : Int} {rs1 : Nat} (hn : 100 ≤ n) (h : Runs miX11_trayAt d [.ref 1, I_ x2] n (W0 dy) g (fun v n' S' g' => V miX11_ways (d + 1) 51 [(0, .ref 1), (1, I_ x1), (2, I_ x2), (3, I_ x3)] (v.toList ++ [.ref rs1, .ref 1]) n' S' g' 0 0 P)) : V miX11_ways (d + 1) 46 [(0, .ref 1), (1, I_ x1), (2, I_ x2), (3, I_ x3)] [.ref rs1, .ref 1] n (W0 dy) g 0 0 P := by
  refine v_aload_n 26 0 rfl rfl rfl ?_
  refine v_iload_n 27 2 rfl rfl rfl ?_
  refine v_callV (st := [.ref rs1, .ref 1]) [I_ x2] 28 rfl lv11_81_ways_10 (al 1 rfl hn) (wk1 dy) (by decide) rfl (Nat.le_refl _) (Nat.le_refl _) ?_
  exact h
set_option maxHeartbeats 8000000 in
set_option maxRecDepth 4000 in
theorem bX11_ways_51 {d n : Nat} {dy : Nat → Shp} {g : Hp} {P : Pst} {x1 : Int} {x2 : Int} {x3 : Int} {rs1 : Nat} {rs2 : Nat} (hn : 100 ≤ n) (h : Runs miX11_waysFound d [.ref 1, .ref rs1, .ref rs2] n (W0 dy) g (fun v n' S' g' => V miX11_ways (d + 1) 54 [(0, .ref 1), (1, I_ x1), (2, I_ x2), (3, I_ x3)] (v.toList ++ []) n' S' g' 0 0 P)) : V miX11_ways (d + 1) 51 [(0, .ref 1), (1, I_ x1), (2, I_ x2), (3, I_ x3)] [.ref rs2, .ref rs1, .ref 1] n (W0 dy) g 0 0 P := by
  refine v_callV (st := []) [.ref rs1, .ref rs2] 29 rfl lv11_323_ways_10 (al 1 rfl hn) (wk1 dy) (by decide) rfl (Nat.le_refl _) (Nat.le_refl _) ?_
  exact h
set_option maxHeartbeats 8000000 in
set_option maxRecDepth 4000 in
theorem bX11_ways_54 {d n : Nat} {dy : Nat → Shp} {g : Hp} {P : Pst} {x1 : Int} {x2 : Int} {x3 : Int} {xs0 : Int} (hn : 100 ≤ n) (h : P (some (I_ xs0)) n (W0 dy) g) : V miX11_ways (d + 1) 54 [(0, .ref 1), (1, I_ x1), (2, I_ x2), (3, I_ x3)] [I_ xs0] n (W0 dy) g 0 0 P := by
  refine v_goto 30 rfl (tgt := 58) rfl ?_
  exact v_ret (v := some (I_ xs0)) 32 rfl (Nat.zero_le _) (Nat.zero_le _) trivial rfl h
theorem wX11_ways {d n : Nat} {dy : Nat → Shp} {g : Hp} {P : Pst} {x1 : Int} {x2 : Int} (hn : 100 ≤ n) (h : Runs miX11_givenStatus d [.ref 1, I_ x1, I_ x2] n (W0 dy) g (fun v n' S' g' => V miX11_ways (d + 1) 6 [(0, .ref 1), (1, I_ x1), (2, I_ x2)] (v.toList ++ []) n' S' g' 0 0 P)) : Runs miX11_ways (d + 1) [.ref 1, I_ x1, I_ x2] n (W0 dy) g P := Runs.of rfl rfl deX11_ways (Nat.le_of_ble_eq_true rfl) (bX11_ways_0 hn h)
theorem fl11_62_10 : FL RX11 62 10 9 true (.object "MobileMaker$Parting") := ⟨RX11, TX11, 13, "MobileMaker", rfl, rfl, by decide, kf10, tbG_in (List.mem_append_right _ (List.mem_of_getElem? (i := 225) (by decide +kernel))) rfl, Or.inl rfl, rfl, by decide +kernel, ⟨tyX11, tyX11_ok⟩, nmX11, fun _ => rfl⟩
theorem lv11_81_fill_10 : LkV miX11_fill miX11_trayAt 81 1 10 := ⟨⟨⟨tbG_in (List.mem_append_right _ (List.mem_of_getElem? (i := 267) (by decide +kernel))) rfl, tbG_in (List.mem_append_right _ (List.mem_of_getElem? (i := 1) (by decide +kernel))) rfl, tbG_in (List.mem_append_right _ (List.mem_of_getElem? (i := 264) (by decide +kernel))) rfl⟩, ⟨by decide +kernel, by decide +kernel, by decide +kernel⟩, by decide⟩, tbG_in (List.mem_append_right _ (List.mem_of_getElem? (i := 266) (by decide +kernel))) rfl, RX11, TX11, 13, rfl, tbG_in (List.mem_append_left _ (List.mem_of_getElem? (i := 0) (by decide +kernel))) rfl⟩
theorem lv11_315_fill_10 : LkV miX11_fill miX11_givenStatus 315 2 10 := ⟨⟨⟨tbG_in (List.mem_append_right _ (List.mem_of_getElem? (i := 879) (by decide +kernel))) rfl, tbG_in (List.mem_append_right _ (List.mem_of_getElem? (i := 1) (by decide +kernel))) rfl, tbG_in (List.mem_append_right _ (List.mem_of_getElem? (i := 876) (by decide +kernel))) rfl⟩, ⟨by decide +kernel, by decide +kernel, by decide +kernel⟩, by decide⟩, tbG_in (List.mem_append_right _ (List.mem_of_getElem? (i := 878) (by decide +kernel))) rfl, RX11, TX11, 13, rfl, tbG_in (List.mem_append_left _ (List.mem_of_getElem? (i := 26) (by decide +kernel))) rfl⟩
theorem lv11_326_fill_2 : LkV miX11_fill miX3_firstPlaceOf 326 1 2 := ⟨⟨⟨tbG_in (List.mem_append_right _ (List.mem_of_getElem? (i := 958) (by decide +kernel))) rfl, tbG_in (List.mem_append_right _ (List.mem_of_getElem? (i := 6) (by decide +kernel))) rfl, tbG_in (List.mem_append_right _ (List.mem_of_getElem? (i := 955) (by decide +kernel))) rfl⟩, ⟨by decide +kernel, by decide +kernel, by decide +kernel⟩, by decide⟩, tbG_in (List.mem_append_right _ (List.mem_of_getElem? (i := 956) (by decide +kernel))) rfl, RX3, TX3, 11, rfl, tbG_in (List.mem_append_right _ (List.mem_of_getElem? (i := 957) (by decide +kernel))) rfl⟩
theorem lv11_163_fill_10 : LkV miX11_fill miX11_partAt 163 1 10 := ⟨⟨⟨tbG_in (List.mem_append_right _ (List.mem_of_getElem? (i := 600) (by decide +kernel))) rfl, tbG_in (List.mem_append_right _ (List.mem_of_getElem? (i := 1) (by decide +kernel))) rfl, tbG_in (List.mem_append_right _ (List.mem_of_getElem? (i := 597) (by decide +kernel))) rfl⟩, ⟨by decide +kernel, by decide +kernel, by decide +kernel⟩, by decide⟩, tbG_in (List.mem_append_right _ (List.mem_of_getElem? (i := 599) (by decide +kernel))) rfl, RX11, TX11, 13, rfl, tbG_in (List.mem_append_left _ (List.mem_of_getElem? (i := 13) (by decide +kernel))) rfl⟩
theorem ls11_97_fill : LkS miX11_fill miX11_placeStatus 97 2 := ⟨⟨⟨tbG_in (List.mem_append_right _ (List.mem_of_getElem? (i := 289) (by decide +kernel))) rfl, tbG_in (List.mem_append_right _ (List.mem_of_getElem? (i := 1) (by decide +kernel))) rfl, tbG_in (List.mem_append_right _ (List.mem_of_getElem? (i := 287) (by decide +kernel))) rfl⟩, ⟨by decide +kernel, by decide +kernel, by decide +kernel⟩, by decide⟩, tbG_in (List.mem_append_right _ (List.mem_of_getElem? (i := 288) (by decide +kernel))) rfl⟩
theorem lv11_319_fill_10 : LkV miX11_fill miX11_shapeStatus 319 2 10 := ⟨⟨⟨tbG_in (List.mem_append_right _ (List.mem_of_getElem? (i := 883) (by decide +kernel))) rfl, tbG_in (List.mem_append_right _ (List.mem_of_getElem? (i := 1) (by decide +kernel))) rfl, tbG_in (List.mem_append_right _ (List.mem_of_getElem? (i := 880) (by decide +kernel))) rfl⟩, ⟨by decide +kernel, by decide +kernel, by decide +kernel⟩, by decide⟩, tbG_in (List.mem_append_right _ (List.mem_of_getElem? (i := 882) (by decide +kernel))) rfl, RX11, TX11, 13, rfl, tbG_in (List.mem_append_left _ (List.mem_of_getElem? (i := 27) (by decide +kernel))) rfl⟩
theorem lv11_323_fill_10 : LkV miX11_fill miX11_waysFound 323 2 10 := ⟨⟨⟨tbG_in (List.mem_append_right _ (List.mem_of_getElem? (i := 899) (by decide +kernel))) rfl, tbG_in (List.mem_append_right _ (List.mem_of_getElem? (i := 1) (by decide +kernel))) rfl, tbG_in (List.mem_append_right _ (List.mem_of_getElem? (i := 896) (by decide +kernel))) rfl⟩, ⟨by decide +kernel, by decide +kernel, by decide +kernel⟩, by decide⟩, tbG_in (List.mem_append_right _ (List.mem_of_getElem? (i := 898) (by decide +kernel))) rfl, RX11, TX11, 13, rfl, tbG_in (List.mem_append_left _ (List.mem_of_getElem? (i := 28) (by decide +kernel))) rfl⟩
set_option maxHeartbeats 8000000 in
set_option maxRecDepth 4000 in
theorem bX11_fill_0 {d n : Nat} {dy : Nat → Shp} {g : Hp} {P : Pst} {x1 : Int} {x2 : Int} {x3 : Int} (hn : 100 ≤ n) (h : Runs miX11_trayAt d [.ref 1, I_ x2] n (W0 dy) g (fun v n' S' g' => V miX11_fill (d + 1) 5 [(0, .ref 1), (1, I_ x1), (2, I_ x2), (3, I_ x3)] (v.toList ++ []) n' S' g' 0 0 P)) : V miX11_fill (d + 1) 0 [(0, .ref 1), (1, I_ x1), (2, I_ x2), (3, I_ x3)] [] n (W0 dy) g 0 0 P := by
  refine v_aload_n 0 0 rfl rfl rfl ?_
  refine v_iload_n 1 2 rfl rfl rfl ?_
  refine v_callV (st := []) [I_ x2] 2 rfl lv11_81_fill_10 (al 1 rfl hn) (wk1 dy) (by decide) rfl (Nat.le_refl _) (Nat.le_refl _) ?_
  exact h
set_option maxHeartbeats 8000000 in
set_option maxRecDepth 4000 in
theorem bX11_fill_5 {d n : Nat} {dy : Nat → Shp} {g : Hp} {P : Pst} {x1 : Int} {x2 : Int} {x3 : Int} {rs0 : Nat} (hn : 100 ≤ n) (h : Runs miX11_givenStatus d [.ref 1, I_ x1, I_ x2] n (W0 dy) g (fun v n' S' g' => V miX11_fill (d + 1) 13 [(0, .ref 1), (1, I_ x1), (2, I_ x2), (3, I_ x3), (4, .ref rs0)] (v.toList ++ []) n' S' g' 0 0 P)) : V miX11_fill (d + 1) 5 [(0, .ref 1), (1, I_ x1), (2, I_ x2), (3, I_ x3)] [.ref rs0] n (W0 dy) g 0 0 P := by
  refine v_astore 3 [1, 2, 3, 4, 0] rfl (by decide) rfl ?_
  refine v_aload_n 4 0 rfl rfl rfl ?_
  refine v_iload_n 5 1 rfl rfl rfl ?_
  refine v_iload_n 6 2 rfl rfl rfl ?_
  refine v_callV (st := []) [I_ x1, I_ x2] 7 rfl lv11_315_fill_10 (al 1 rfl hn) (wk1 dy) (by decide) rfl (Nat.le_refl _) (Nat.le_refl _) ?_
  exact h
set_option maxHeartbeats 8000000 in
set_option maxRecDepth 4000 in
theorem bX11_fill_13 {d n : Nat} {dy : Nat → Shp} {g : Hp} {P : Pst} {x1 : Int} {x2 : Int} {x3 : Int} {r4 : Nat} {xs0 : Int} (hn : 100 ≤ n) (h : (i3 xs0) ∧ ((xs0 ≠ 0) → ((xs0 ≠ 0) → ((xs0 ≠ 0) → ((xs0 ≠ 0) → P (some (I_ ((-1)))) n (W0 dy) (up2 g 1 3 xs0)) ∧ ((xs0 = 0) → Runs miX3_firstPlaceOf d [.ref 18, I_ x3] n (W0 dy) (up2 g 1 3 xs0) (fun v n' S' g' => V miX11_fill (d + 1) 90 [(0, .ref 1), (1, I_ x1), (2, I_ x2), (3, I_ x3), (4, .ref r4), (5, I_ xs0)] (v.toList ++ []) n' S' g' 0 0 P))) ∧ ((xs0 = 0) → Runs miX11_partAt d [.ref 1, I_ x1] n (W0 dy) g (fun v n' S' g' => V miX11_fill (d + 1) 57 [(0, .ref 1), (1, I_ x1), (2, I_ x2), (3, I_ x3), (4, .ref r4), (5, I_ xs0)] (v.toList ++ [.ref 1]) n' S' g' 0 0 P))) ∧ ((xs0 = 0) → Runs miX11_partAt d [.ref 1, I_ x1] n (W0 dy) g (fun v n' S' g' => V miX11_fill (d + 1) 39 [(0, .ref 1), (1, I_ x1), (2, I_ x2), (3, I_ x3), (4, .ref r4), (5, I_ xs0)] (v.toList ++ [.ref 1]) n' S' g' 0 0 P))) ∧ ((xs0 = 0) → Runs miX11_placeStatus d [.ref r4, I_ x3] n (W0 dy) g (fun v n' S' g' => V miX11_fill (d + 1) 26 [(0, .ref 1), (1, I_ x1), (2, I_ x2), (3, I_ x3), (4, .ref r4), (5, I_ xs0)] (v.toList ++ []) n' S' g' 0 0 P))) : V miX11_fill (d + 1) 13 [(0, .ref 1), (1, I_ x1), (2, I_ x2), (3, I_ x3), (4, .ref r4)] [I_ xs0] n (W0 dy) g 0 0 P := by
  refine v_istore 8 [1, 2, 3, 4, 5, 0] rfl (by decide) rfl ?_
  refine v_iload 9 5 rfl rfl ?_
  have c1 := h.1
  have h := h.2
  refine v_if_ne 10 rfl (tgt := 28) rfl c1 (fun q2 => ?_) (fun q2 => ?_)
  · have h := h.1 q2
    refine v_iload 15 5 rfl rfl ?_
    refine v_if_ne 16 rfl (tgt := 46) rfl c1 (fun q3 => ?_) (fun q3 => ?_)
    · have h := h.1 q3
      refine v_iload 24 5 rfl rfl ?_
      refine v_if_ne 25 rfl (tgt := 69) rfl c1 (fun q4 => ?_) (fun q4 => ?_)
      · have h := h.1 q4
        refine v_aload_n 35 0 rfl rfl rfl ?_
        refine v_iload 36 5 rfl rfl ?_
        refine v_putI 37 rfl fl11_25_10 (al 1 rfl hn) (wk1 dy) (by decide) rfl (wc1_3 dy) c1 ?_
        refine v_aload_n 38 0 rfl rfl rfl ?_
        refine v_gI 39 rfl fl11_25_10.r (al 1 rfl hn) (wk1 dy) (by decide) rfl (wc1_3 dy) (x := xs0) rfl ?_
        refine v_rng fun w5 => ?_
        have p6 : i3 (xs0) := rI w5 (q := 3) (al 1 rfl hn) (wk1 dy) rfl rfl
        refine v_if_ne 40 rfl (tgt := 93) rfl p6 (fun q7 => ?_) (fun q7 => ?_)
        · have h := h.1 q7
          refine v_iconst 46 rfl ?_
          exact v_ret (v := some (I_ ((-1)))) 47 rfl (Nat.zero_le _) (Nat.zero_le _) trivial rfl h
        · have h := h.2 q7
          refine v_aload_n 41 0 rfl rfl rfl ?_
          refine v_gK 42 rfl fl11_62_10.r (al 1 rfl hn) (wk1 dy) (by decide) rfl (r := 18) (wc1_9 dy) ?_
          refine v_iload_n 43 3 rfl rfl rfl ?_
          refine v_callV (st := []) [I_ x3] 44 rfl lv11_326_fill_2 (al 18 rfl hn) (wk18 dy) (by decide) rfl (Nat.le_refl _) (Nat.le_refl _) ?_
          exact h
      · have h := h.2 q4
        refine v_aload_n 26 0 rfl rfl rfl ?_
        refine v_aload_n 27 0 rfl rfl rfl ?_
        refine v_iload_n 28 1 rfl rfl rfl ?_
        refine v_callV (st := [.ref 1]) [I_ x1] 29 rfl lv11_163_fill_10 (al 1 rfl hn) (wk1 dy) (by decide) rfl (Nat.le_refl _) (Nat.le_refl _) ?_
        exact h
    · have h := h.2 q3
      refine v_aload_n 17 0 rfl rfl rfl ?_
      refine v_aload_n 18 0 rfl rfl rfl ?_
      refine v_iload_n 19 1 rfl rfl rfl ?_
      refine v_callV (st := [.ref 1]) [I_ x1] 20 rfl lv11_163_fill_10 (al 1 rfl hn) (wk1 dy) (by decide) rfl (Nat.le_refl _) (Nat.le_refl _) ?_
      exact h
  · have h := h.2 q2
    refine v_aload 11 4 rfl rfl ?_
    refine v_iload_n 12 3 rfl rfl rfl ?_
    refine v_callS (st := []) [.ref r4, I_ x3] 13 rfl ls11_97_fill rfl (Nat.lt_of_lt_of_le (by decide) hn) (Nat.le_refl _) (Nat.le_refl _) ?_
    exact h
set_option maxHeartbeats 8000000 in
set_option maxRecDepth 4000 in
theorem bX11_fill_26 {d n : Nat} {dy : Nat → Shp} {g : Hp} {P : Pst} {x1 : Int} {x2 : Int} {x3 : Int} {r4 : Nat} {x5 : Int} {xs0 : Int} (hn : 100 ≤ n) (h : (i3 xs0) ∧ ((xs0 ≠ 0) → ((xs0 ≠ 0) → ((xs0 ≠ 0) → P (some (I_ ((-1)))) n (W0 dy) (up2 g 1 3 xs0)) ∧ ((xs0 = 0) → Runs miX3_firstPlaceOf d [.ref 18, I_ x3] n (W0 dy) (up2 g 1 3 xs0) (fun v n' S' g' => V miX11_fill (d + 1) 90 [(0, .ref 1), (1, I_ x1), (2, I_ x2), (3, I_ x3), (4, .ref r4), (5, I_ xs0)] (v.toList ++ []) n' S' g' 0 0 P))) ∧ ((xs0 = 0) → Runs miX11_partAt d [.ref 1, I_ x1] n (W0 dy) g (fun v n' S' g' => V miX11_fill (d + 1) 57 [(0, .ref 1), (1, I_ x1), (2, I_ x2), (3, I_ x3), (4, .ref r4), (5, I_ xs0)] (v.toList ++ [.ref 1]) n' S' g' 0 0 P))) ∧ ((xs0 = 0) → Runs miX11_partAt d [.ref 1, I_ x1] n (W0 dy) g (fun v n' S' g' => V miX11_fill (d + 1) 39 [(0, .ref 1), (1, I_ x1), (2, I_ x2), (3, I_ x3), (4, .ref r4), (5, I_ xs0)] (v.toList ++ [.ref 1]) n' S' g' 0 0 P))) : V miX11_fill (d + 1) 26 [(0, .ref 1), (1, I_ x1), (2, I_ x2), (3, I_ x3), (4, .ref r4), (5, I_ x5)] [I_ xs0] n (W0 dy) g 0 0 P := by
  refine v_istore 14 [1, 2, 3, 4, 5, 0] rfl (by decide) rfl ?_
  refine v_iload 15 5 rfl rfl ?_
  have c1 := h.1
  have h := h.2
  refine v_if_ne 16 rfl (tgt := 46) rfl c1 (fun q2 => ?_) (fun q2 => ?_)
  · have h := h.1 q2
    refine v_iload 24 5 rfl rfl ?_
    refine v_if_ne 25 rfl (tgt := 69) rfl c1 (fun q3 => ?_) (fun q3 => ?_)
    · have h := h.1 q3
      refine v_aload_n 35 0 rfl rfl rfl ?_
      refine v_iload 36 5 rfl rfl ?_
      refine v_putI 37 rfl fl11_25_10 (al 1 rfl hn) (wk1 dy) (by decide) rfl (wc1_3 dy) c1 ?_
      refine v_aload_n 38 0 rfl rfl rfl ?_
      refine v_gI 39 rfl fl11_25_10.r (al 1 rfl hn) (wk1 dy) (by decide) rfl (wc1_3 dy) (x := xs0) rfl ?_
      refine v_rng fun w4 => ?_
      have p5 : i3 (xs0) := rI w4 (q := 3) (al 1 rfl hn) (wk1 dy) rfl rfl
      refine v_if_ne 40 rfl (tgt := 93) rfl p5 (fun q6 => ?_) (fun q6 => ?_)
      · have h := h.1 q6
        refine v_iconst 46 rfl ?_
        exact v_ret (v := some (I_ ((-1)))) 47 rfl (Nat.zero_le _) (Nat.zero_le _) trivial rfl h
      · have h := h.2 q6
        refine v_aload_n 41 0 rfl rfl rfl ?_
        refine v_gK 42 rfl fl11_62_10.r (al 1 rfl hn) (wk1 dy) (by decide) rfl (r := 18) (wc1_9 dy) ?_
        refine v_iload_n 43 3 rfl rfl rfl ?_
        refine v_callV (st := []) [I_ x3] 44 rfl lv11_326_fill_2 (al 18 rfl hn) (wk18 dy) (by decide) rfl (Nat.le_refl _) (Nat.le_refl _) ?_
        exact h
    · have h := h.2 q3
      refine v_aload_n 26 0 rfl rfl rfl ?_
      refine v_aload_n 27 0 rfl rfl rfl ?_
      refine v_iload_n 28 1 rfl rfl rfl ?_
      refine v_callV (st := [.ref 1]) [I_ x1] 29 rfl lv11_163_fill_10 (al 1 rfl hn) (wk1 dy) (by decide) rfl (Nat.le_refl _) (Nat.le_refl _) ?_
      exact h
  · have h := h.2 q2
    refine v_aload_n 17 0 rfl rfl rfl ?_
    refine v_aload_n 18 0 rfl rfl rfl ?_
    refine v_iload_n 19 1 rfl rfl rfl ?_
    refine v_callV (st := [.ref 1]) [I_ x1] 20 rfl lv11_163_fill_10 (al 1 rfl hn) (wk1 dy) (by decide) rfl (Nat.le_refl _) (Nat.le_refl _) ?_
    exact h
set_option maxHeartbeats 8000000 in
set_option maxRecDepth 4000 in
theorem bX11_fill_39 {d n : Nat} {dy : Nat → Shp} {g : Hp} {P : Pst} {x1 : Int} {x2 : Int} {x3 : Int} {r4 : Nat} {x5 : Int} {rs1 : Nat} (hn : 100 ≤ n) (h : Runs miX11_shapeStatus d [.ref 1, .ref rs1, .ref r4] n (W0 dy) g (fun v n' S' g' => V miX11_fill (d + 1) 44 [(0, .ref 1), (1, I_ x1), (2, I_ x2), (3, I_ x3), (4, .ref r4), (5, I_ x5)] (v.toList ++ []) n' S' g' 0 0 P)) : V miX11_fill (d + 1) 39 [(0, .ref 1), (1, I_ x1), (2, I_ x2), (3, I_ x3), (4, .ref r4), (5, I_ x5)] [.ref rs1, .ref 1] n (W0 dy) g 0 0 P := by
  refine v_aload 21 4 rfl rfl ?_
  refine v_callV (st := []) [.ref rs1, .ref r4] 22 rfl lv11_319_fill_10 (al 1 rfl hn) (wk1 dy) (by decide) rfl (Nat.le_refl _) (Nat.le_refl _) ?_
  exact h
set_option maxHeartbeats 8000000 in
set_option maxRecDepth 4000 in
theorem bX11_fill_44 {d n : Nat} {dy : Nat → Shp} {g : Hp} {P : Pst} {x1 : Int} {x2 : Int} {x3 : Int} {r4 : Nat} {x5 : Int} {xs0 : Int} (hn : 100 ≤ n) (h : (i3 xs0) ∧ ((xs0 ≠ 0) → ((xs0 ≠ 0) → P (some (I_ ((-1)))) n (W0 dy) (up2 g 1 3 xs0)) ∧ ((xs0 = 0) → Runs miX3_firstPlaceOf d [.ref 18, I_ x3] n (W0 dy) (up2 g 1 3 xs0) (fun v n' S' g' => V miX11_fill (d + 1) 90 [(0, .ref 1), (1, I_ x1), (2, I_ x2), (3, I_ x3), (4, .ref r4), (5, I_ xs0)] (v.toList ++ []) n' S' g' 0 0 P))) ∧ ((xs0 = 0) → Runs miX11_partAt d [.ref 1, I_ x1] n (W0 dy) g (fun v n' S' g' => V miX11_fill (d + 1) 57 [(0, .ref 1), (1, I_ x1), (2, I_ x2), (3, I_ x3), (4, .ref r4), (5, I_ xs0)] (v.toList ++ [.ref 1]) n' S' g' 0 0 P))) : V miX11_fill (d + 1) 44 [(0, .ref 1), (1, I_ x1), (2, I_ x2), (3, I_ x3), (4, .ref r4), (5, I_ x5)] [I_ xs0] n (W0 dy) g 0 0 P := by
  refine v_istore 23 [1, 2, 3, 4, 5, 0] rfl (by decide) rfl ?_
  refine v_iload 24 5 rfl rfl ?_
  have c1 := h.1
  have h := h.2
  refine v_if_ne 25 rfl (tgt := 69) rfl c1 (fun q2 => ?_) (fun q2 => ?_)
  · have h := h.1 q2
    refine v_aload_n 35 0 rfl rfl rfl ?_
    refine v_iload 36 5 rfl rfl ?_
    refine v_putI 37 rfl fl11_25_10 (al 1 rfl hn) (wk1 dy) (by decide) rfl (wc1_3 dy) c1 ?_
    refine v_aload_n 38 0 rfl rfl rfl ?_
    refine v_gI 39 rfl fl11_25_10.r (al 1 rfl hn) (wk1 dy) (by decide) rfl (wc1_3 dy) (x := xs0) rfl ?_
    refine v_rng fun w3 => ?_
    have p4 : i3 (xs0) := rI w3 (q := 3) (al 1 rfl hn) (wk1 dy) rfl rfl
    refine v_if_ne 40 rfl (tgt := 93) rfl p4 (fun q5 => ?_) (fun q5 => ?_)
    · have h := h.1 q5
      refine v_iconst 46 rfl ?_
      exact v_ret (v := some (I_ ((-1)))) 47 rfl (Nat.zero_le _) (Nat.zero_le _) trivial rfl h
    · have h := h.2 q5
      refine v_aload_n 41 0 rfl rfl rfl ?_
      refine v_gK 42 rfl fl11_62_10.r (al 1 rfl hn) (wk1 dy) (by decide) rfl (r := 18) (wc1_9 dy) ?_
      refine v_iload_n 43 3 rfl rfl rfl ?_
      refine v_callV (st := []) [I_ x3] 44 rfl lv11_326_fill_2 (al 18 rfl hn) (wk18 dy) (by decide) rfl (Nat.le_refl _) (Nat.le_refl _) ?_
      exact h
  · have h := h.2 q2
    refine v_aload_n 26 0 rfl rfl rfl ?_
    refine v_aload_n 27 0 rfl rfl rfl ?_
    refine v_iload_n 28 1 rfl rfl rfl ?_
    refine v_callV (st := [.ref 1]) [I_ x1] 29 rfl lv11_163_fill_10 (al 1 rfl hn) (wk1 dy) (by decide) rfl (Nat.le_refl _) (Nat.le_refl _) ?_
    exact h
set_option maxHeartbeats 8000000 in
set_option maxRecDepth 4000 in
theorem bX11_fill_57 {d n : Nat} {dy : Nat → Shp} {g : Hp} {P : Pst} {x1 : Int} {x2 : Int} {x3 : Int} {r4 : Nat} {x5 : Int} {rs1 : Nat} (hn : 100 ≤ n) (h : Runs miX11_waysFound d [.ref 1, .ref rs1, .ref r4] n (W0 dy) g (fun v n' S' g' => V miX11_fill (d + 1) 62 [(0, .ref 1), (1, I_ x1), (2, I_ x2), (3, I_ x3), (4, .ref r4), (5, I_ x5)] (v.toList ++ []) n' S' g' 0 0 P)) : V miX11_fill (d + 1) 57 [(0, .ref 1), (1, I_ x1), (2, I_ x2), (3, I_ x3), (4, .ref r4), (5, I_ x5)] [.ref rs1, .ref 1] n (W0 dy) g 0 0 P := by
  refine v_aload 30 4 rfl rfl ?_
  refine v_callV (st := []) [.ref rs1, .ref r4] 31 rfl lv11_323_fill_10 (al 1 rfl hn) (wk1 dy) (by decide) rfl (Nat.le_refl _) (Nat.le_refl _) ?_
  exact h
set_option maxHeartbeats 8000000 in
set_option maxRecDepth 4000 in
theorem bX11_fill_62 {d n : Nat} {dy : Nat → Shp} {g : Hp} {P : Pst} {x1 : Int} {x2 : Int} {x3 : Int} {r4 : Nat} {x5 : Int} {xs0 : Int} (hn : 100 ≤ n) (h : (i3 xs0) ∧ ((xs0 ≠ 0) → (i3 x5) ∧ ((x5 ≠ 0) → P (some (I_ ((-1)))) n (W0 dy) (up2 g 1 3 x5)) ∧ ((x5 = 0) → Runs miX3_firstPlaceOf d [.ref 18, I_ x3] n (W0 dy) (up2 g 1 3 x5) (fun v n' S' g' => V miX11_fill (d + 1) 90 [(0, .ref 1), (1, I_ x1), (2, I_ x2), (3, I_ x3), (4, .ref r4), (5, I_ x5)] (v.toList ++ []) n' S' g' 0 0 P))) ∧ ((xs0 = 0) → P (some (I_ ((-1)))) n (W0 dy) (up2 g 1 3 11))) : V miX11_fill (d + 1) 62 [(0, .ref 1), (1, I_ x1), (2, I_ x2), (3, I_ x3), (4, .ref r4), (5, I_ x5)] [I_ xs0] n (W0 dy) g 0 0 P := by
  have c1 := h.1
  have h := h.2
  refine v_if_ne 32 rfl (tgt := 69) rfl c1 (fun q2 => ?_) (fun q2 => ?_)
  · have h := h.1 q2
    refine v_aload_n 35 0 rfl rfl rfl ?_
    refine v_iload 36 5 rfl rfl ?_
    have c3 := h.1
    have h := h.2
    refine v_putI 37 rfl fl11_25_10 (al 1 rfl hn) (wk1 dy) (by decide) rfl (wc1_3 dy) c3 ?_
    refine v_aload_n 38 0 rfl rfl rfl ?_
    refine v_gI 39 rfl fl11_25_10.r (al 1 rfl hn) (wk1 dy) (by decide) rfl (wc1_3 dy) (x := x5) rfl ?_
    refine v_rng fun w4 => ?_
    have p5 : i3 (x5) := rI w4 (q := 3) (al 1 rfl hn) (wk1 dy) rfl rfl
    refine v_if_ne 40 rfl (tgt := 93) rfl p5 (fun q6 => ?_) (fun q6 => ?_)
    · have h := h.1 q6
      refine v_iconst 46 rfl ?_
      exact v_ret (v := some (I_ ((-1)))) 47 rfl (Nat.zero_le _) (Nat.zero_le _) trivial rfl h
    · have h := h.2 q6
      refine v_aload_n 41 0 rfl rfl rfl ?_
      refine v_gK 42 rfl fl11_62_10.r (al 1 rfl hn) (wk1 dy) (by decide) rfl (r := 18) (wc1_9 dy) ?_
      refine v_iload_n 43 3 rfl rfl rfl ?_
      refine v_callV (st := []) [I_ x3] 44 rfl lv11_326_fill_2 (al 18 rfl hn) (wk18 dy) (by decide) rfl (Nat.le_refl _) (Nat.le_refl _) ?_
      exact h
  · have h := h.2 q2
    refine v_bipush 33 rfl (by decide) ?_
    refine v_istore 34 [1, 2, 3, 4, 5, 0] rfl (by decide) rfl ?_
    refine v_aload_n 35 0 rfl rfl rfl ?_
    refine v_iload 36 5 rfl rfl ?_
    refine v_putI 37 rfl fl11_25_10 (al 1 rfl hn) (wk1 dy) (by decide) rfl (wc1_3 dy) (by decide) ?_
    refine v_aload_n 38 0 rfl rfl rfl ?_
    refine v_gI 39 rfl fl11_25_10.r (al 1 rfl hn) (wk1 dy) (by decide) rfl (wc1_3 dy) (x := 11) rfl ?_
    refine v_rng fun w7 => ?_
    have p8 : i3 (11) := rI w7 (q := 3) (al 1 rfl hn) (wk1 dy) rfl rfl
    refine v_if_ne 40 rfl (tgt := 93) rfl (by decide) (fun q9 => ?_) (fun q9 => ?_)
    · refine v_iconst 46 rfl ?_
      exact v_ret (v := some (I_ ((-1)))) 47 rfl (Nat.zero_le _) (Nat.zero_le _) trivial rfl h
    · exact absurd q9 (by decide)
set_option maxHeartbeats 8000000 in
set_option maxRecDepth 4000 in
theorem bX11_fill_90 {d n : Nat} {dy : Nat → Shp} {g : Hp} {P : Pst} {x1 : Int} {x2 : Int} {x3 : Int} {r4 : Nat} {x5 : Int} {xs0 : Int} (hn : 100 ≤ n) (h : P (some (I_ xs0)) n (W0 dy) g) : V miX11_fill (d + 1) 90 [(0, .ref 1), (1, I_ x1), (2, I_ x2), (3, I_ x3), (4, .ref r4), (5, I_ x5)] [I_ xs0] n (W0 dy) g 0 0 P := by
  refine v_goto 45 rfl (tgt := 94) rfl ?_
  exact v_ret (v := some (I_ xs0)) 47 rfl (Nat.zero_le _) (Nat.zero_le _) trivial rfl h
theorem wX11_fill {d n : Nat} {dy : Nat → Shp} {g : Hp} {P : Pst} {x1 : Int} {x2 : Int} {x3 : Int} (hn : 100 ≤ n) (h : Runs miX11_trayAt d [.ref 1, I_ x2] n (W0 dy) g (fun v n' S' g' => V miX11_fill (d + 1) 5 [(0, .ref 1), (1, I_ x1), (2, I_ x2), (3, I_ x3)] (v.toList ++ []) n' S' g' 0 0 P)) : Runs miX11_fill (d + 1) [.ref 1, I_ x1, I_ x2, I_ x3] n (W0 dy) g P := Runs.of rfl rfl deX11_fill (Nat.le_of_ble_eq_true rfl) (bX11_fill_0 hn h)
theorem fl11_70_10 : FL RX11 70 10 11 false .int := ⟨RX11, TX11, 13, "MobileMaker", rfl, rfl, by decide, kf10, tbG_in (List.mem_append_right _ (List.mem_of_getElem? (i := 227) (by decide +kernel))) rfl, Or.inl rfl, rfl, by decide +kernel, ⟨tyX11, tyX11_ok⟩, nmX11, fun h => by cases h⟩
theorem lv11_163_fewest_10 : LkV miX11_fewest miX11_partAt 163 1 10 := ⟨⟨⟨tbG_in (List.mem_append_right _ (List.mem_of_getElem? (i := 600) (by decide +kernel))) rfl, tbG_in (List.mem_append_right _ (List.mem_of_getElem? (i := 1) (by decide +kernel))) rfl, tbG_in (List.mem_append_right _ (List.mem_of_getElem? (i := 597) (by decide +kernel))) rfl⟩, ⟨by decide +kernel, by decide +kernel, by decide +kernel⟩, by decide⟩, tbG_in (List.mem_append_right _ (List.mem_of_getElem? (i := 599) (by decide +kernel))) rfl, RX11, TX11, 13, rfl, tbG_in (List.mem_append_left _ (List.mem_of_getElem? (i := 13) (by decide +kernel))) rfl⟩
theorem lv11_329_fewest_10 : LkV miX11_fewest miX11_fewestStatus 329 2 10 := ⟨⟨⟨tbG_in (List.mem_append_right _ (List.mem_of_getElem? (i := 966) (by decide +kernel))) rfl, tbG_in (List.mem_append_right _ (List.mem_of_getElem? (i := 1) (by decide +kernel))) rfl, tbG_in (List.mem_append_right _ (List.mem_of_getElem? (i := 963) (by decide +kernel))) rfl⟩, ⟨by decide +kernel, by decide +kernel, by decide +kernel⟩, by decide⟩, tbG_in (List.mem_append_right _ (List.mem_of_getElem? (i := 965) (by decide +kernel))) rfl, RX11, TX11, 13, rfl, tbG_in (List.mem_append_left _ (List.mem_of_getElem? (i := 39) (by decide +kernel))) rfl⟩
theorem lv11_332_fewest_1 : LkV miX11_fewest miX1_countOf 332 1 1 := ⟨⟨⟨tbG_in (List.mem_append_right _ (List.mem_of_getElem? (i := 970) (by decide +kernel))) rfl, tbG_in (List.mem_append_right _ (List.mem_of_getElem? (i := 2) (by decide +kernel))) rfl, tbG_in (List.mem_append_right _ (List.mem_of_getElem? (i := 967) (by decide +kernel))) rfl⟩, ⟨by decide +kernel, by decide +kernel, by decide +kernel⟩, by decide⟩, tbG_in (List.mem_append_right _ (List.mem_of_getElem? (i := 968) (by decide +kernel))) rfl, RX1, TX1, 3, rfl, tbG_in (List.mem_append_right _ (List.mem_of_getElem? (i := 969) (by decide +kernel))) rfl⟩
theorem lv11_135_fewest_10 : LkV miX11_fewest miX11_none 135 1 10 := ⟨⟨⟨tbG_in (List.mem_append_right _ (List.mem_of_getElem? (i := 336) (by decide +kernel))) rfl, tbG_in (List.mem_append_right _ (List.mem_of_getElem? (i := 1) (by decide +kernel))) rfl, tbG_in (List.mem_append_right _ (List.mem_of_getElem? (i := 333) (by decide +kernel))) rfl⟩, ⟨by decide +kernel, by decide +kernel, by decide +kernel⟩, by decide⟩, tbG_in (List.mem_append_right _ (List.mem_of_getElem? (i := 335) (by decide +kernel))) rfl, RX11, TX11, 13, rfl, tbG_in (List.mem_append_left _ (List.mem_of_getElem? (i := 4) (by decide +kernel))) rfl⟩
theorem lv11_335_fewest_1 : LkV miX11_fewest miX1_staysLevelBare 335 0 1 := ⟨⟨⟨tbG_in (List.mem_append_right _ (List.mem_of_getElem? (i := 974) (by decide +kernel))) rfl, tbG_in (List.mem_append_right _ (List.mem_of_getElem? (i := 2) (by decide +kernel))) rfl, tbG_in (List.mem_append_right _ (List.mem_of_getElem? (i := 971) (by decide +kernel))) rfl⟩, ⟨by decide +kernel, by decide +kernel, by decide +kernel⟩, by decide⟩, tbG_in (List.mem_append_right _ (List.mem_of_getElem? (i := 972) (by decide +kernel))) rfl, RX1, TX1, 3, rfl, tbG_in (List.mem_append_right _ (List.mem_of_getElem? (i := 973) (by decide +kernel))) rfl⟩
theorem lv11_338_fewest_10 : LkV miX11_fewest miX11_suspectAllWeights 338 0 10 := ⟨⟨⟨tbG_in (List.mem_append_right _ (List.mem_of_getElem? (i := 985) (by decide +kernel))) rfl, tbG_in (List.mem_append_right _ (List.mem_of_getElem? (i := 1) (by decide +kernel))) rfl, tbG_in (List.mem_append_right _ (List.mem_of_getElem? (i := 982) (by decide +kernel))) rfl⟩, ⟨by decide +kernel, by decide +kernel, by decide +kernel⟩, by decide⟩, tbG_in (List.mem_append_right _ (List.mem_of_getElem? (i := 984) (by decide +kernel))) rfl, RX11, TX11, 13, rfl, tbG_in (List.mem_append_left _ (List.mem_of_getElem? (i := 40) (by decide +kernel))) rfl⟩
set_option maxHeartbeats 8000000 in
set_option maxRecDepth 4000 in
theorem bX11_fewest_0 {d n : Nat} {dy : Nat → Shp} {g : Hp} {P : Pst} {x1 : Int} {x2 : Int} (hn : 100 ≤ n) (h : Runs miX11_partAt d [.ref 1, I_ x1] n (W0 dy) g (fun v n' S' g' => V miX11_fewest (d + 1) 7 [(0, .ref 1), (1, I_ x1), (2, I_ x2)] (v.toList ++ [.ref 1, .ref 1]) n' S' g' 0 0 P)) : V miX11_fewest (d + 1) 0 [(0, .ref 1), (1, I_ x1), (2, I_ x2)] [] n (W0 dy) g 0 0 P := by
  refine v_aload_n 0 0 rfl rfl rfl ?_
  refine v_aload_n 1 0 rfl rfl rfl ?_
  refine v_aload_n 2 0 rfl rfl rfl ?_
  refine v_iload_n 3 1 rfl rfl rfl ?_
  refine v_callV (st := [.ref 1, .ref 1]) [I_ x1] 4 rfl lv11_163_fewest_10 (al 1 rfl hn) (wk1 dy) (by decide) rfl (Nat.le_refl _) (Nat.le_refl _) ?_
  exact h
set_option maxHeartbeats 8000000 in
set_option maxRecDepth 4000 in
theorem bX11_fewest_7 {d n : Nat} {dy : Nat → Shp} {g : Hp} {P : Pst} {x1 : Int} {x2 : Int} {rs2 : Nat} (hn : 100 ≤ n) (h : Runs miX11_fewestStatus d [.ref 1, .ref rs2, I_ x2] n (W0 dy) g (fun v n' S' g' => V miX11_fewest (d + 1) 11 [(0, .ref 1), (1, I_ x1), (2, I_ x2)] (v.toList ++ [.ref 1]) n' S' g' 0 0 P)) : V miX11_fewest (d + 1) 7 [(0, .ref 1), (1, I_ x1), (2, I_ x2)] [.ref rs2, .ref 1, .ref 1] n (W0 dy) g 0 0 P := by
  refine v_iload_n 5 2 rfl rfl rfl ?_
  refine v_callV (st := [.ref 1]) [.ref rs2, I_ x2] 6 rfl lv11_329_fewest_10 (al 1 rfl hn) (wk1 dy) (by decide) rfl (Nat.le_refl _) (Nat.le_refl _) ?_
  exact h
set_option maxHeartbeats 8000000 in
set_option maxRecDepth 4000 in
theorem bX11_fewest_11 {d n : Nat} {dy : Nat → Shp} {g : Hp} {P : Pst} {x1 : Int} {x2 : Int} {xs1 : Int} (hn : 100 ≤ n) (h : (i3 xs1) ∧ ((xs1 = 0) → (i3 x2) ∧ ((x2 ≠ 0) → Runs miX1_countOf d [.ref 4, I_ 1] n (W0 dy) (up2 g 1 3 xs1) (fun v n' S' g' => V miX11_fewest (d + 1) 46 [(0, .ref 1), (1, I_ x1), (2, I_ x2)] (v.toList ++ [I_ x2]) n' S' g' 0 0 P)) ∧ ((x2 = 0) → P (some (I_ 0)) n (W0 dy) (up2 (up2 g 1 3 xs1) 1 11 0))) ∧ ((xs1 ≠ 0) → P (some (I_ ((-1)))) n (W0 dy) (up2 g 1 3 xs1))) : V miX11_fewest (d + 1) 11 [(0, .ref 1), (1, I_ x1), (2, I_ x2)] [I_ xs1, .ref 1] n (W0 dy) g 0 0 P := by
  have c1 := h.1
  have h := h.2
  refine v_putI 7 rfl fl11_25_10 (al 1 rfl hn) (wk1 dy) (by decide) rfl (wc1_3 dy) c1 ?_
  refine v_aload_n 8 0 rfl rfl rfl ?_
  refine v_gI 9 rfl fl11_25_10.r (al 1 rfl hn) (wk1 dy) (by decide) rfl (wc1_3 dy) (x := xs1) rfl ?_
  refine v_rng fun w2 => ?_
  have p3 : i3 (xs1) := rI w2 (q := 3) (al 1 rfl hn) (wk1 dy) rfl rfl
  refine v_if_eq 10 rfl (tgt := 23) rfl p3 (fun q4 => ?_) (fun q4 => ?_)
  · have h := h.1 q4
    refine v_iload_n 13 2 rfl rfl rfl ?_
    have c5 := h.1
    have h := h.2
    refine v_if_ne 14 rfl (tgt := 37) rfl c5 (fun q6 => ?_) (fun q6 => ?_)
    · have h := h.1 q6
      refine v_iload_n 21 2 rfl rfl rfl ?_
      refine v_aload_n 22 0 rfl rfl rfl ?_
      refine v_gK 23 rfl fl11_31_10.r (al 1 rfl hn) (wk1 dy) (by decide) rfl (r := 4) (wc1_4 dy) ?_
      refine v_iconst 24 rfl ?_
      refine v_callV (st := [I_ x2]) [I_ 1] 25 rfl lv11_332_fewest_1 (al 4 rfl hn) (wk4 dy) (by decide) rfl (Nat.le_refl _) (Nat.le_refl _) ?_
      exact h
    · have h := h.2 q6
      refine v_aload_n 15 0 rfl rfl rfl ?_
      refine v_iconst 16 rfl ?_
      refine v_putI 17 rfl fl11_70_10 (al 1 rfl hn) (wk1 dy) (by decide) rfl (wc1_11 dy) (by decide) ?_
      refine v_aload_n 18 0 rfl rfl rfl ?_
      refine v_gI 19 rfl fl11_70_10.r (al 1 rfl hn) (wk1 dy) (by decide) rfl (wc1_11 dy) (x := 0) rfl ?_
      refine v_rng fun w7 => ?_
      have p8 : i3 (0) := rI w7 (q := 11) (al 1 rfl hn) (wk1 dy) rfl rfl
      exact v_ret (v := some (I_ 0)) 20 rfl (Nat.zero_le _) (Nat.zero_le _) trivial rfl h
  · have h := h.2 q4
    refine v_iconst 11 rfl ?_
    exact v_ret (v := some (I_ ((-1)))) 12 rfl (Nat.zero_le _) (Nat.zero_le _) trivial rfl h
set_option maxHeartbeats 8000000 in
set_option maxRecDepth 4000 in
theorem bX11_fewest_46 {d n : Nat} {dy : Nat → Shp} {g : Hp} {P : Pst} {x1 : Int} {x2 : Int} {xs0 : Int} {xs1 : Int} (hn : 100 ≤ n) (h : (i3 xs0) ∧ (i3 xs1) ∧ ((xs1 < xs0) → Runs miX11_none d [.ref 1, I_ 11] n (W0 dy) g (fun v n' S' g' => V miX11_fewest (d + 1) 65 [(0, .ref 1), (1, I_ x1), (2, I_ x2)] (v.toList ++ []) n' S' g' 0 0 P)) ∧ ((xs0 ≤ xs1) → Runs miX1_staysLevelBare d [.ref 4] n (W0 dy) g (fun v n' S' g' => V miX11_fewest (d + 1) 56 [(0, .ref 1), (1, I_ x1), (2, I_ x2)] (v.toList ++ []) n' S' g' 0 0 P))) : V miX11_fewest (d + 1) 46 [(0, .ref 1), (1, I_ x1), (2, I_ x2)] [I_ xs1, I_ xs0] n (W0 dy) g 0 0 P := by
  have c1 := h.1
  have h := h.2
  have c2 := h.1
  have h := h.2
  refine v_icmp_gt 26 rfl (tgt := 59) rfl c1 c2 (fun q3 => ?_) (fun q3 => ?_)
  · have h := h.1 q3
    refine v_aload_n 31 0 rfl rfl rfl ?_
    refine v_bipush 32 rfl (by decide) ?_
    refine v_callV (st := []) [I_ 11] 33 rfl lv11_135_fewest_10 (al 1 rfl hn) (wk1 dy) (by decide) rfl (Nat.le_refl _) (Nat.le_refl _) ?_
    exact h
  · have h := h.2 q3
    refine v_aload_n 27 0 rfl rfl rfl ?_
    refine v_gK 28 rfl fl11_31_10.r (al 1 rfl hn) (wk1 dy) (by decide) rfl (r := 4) (wc1_4 dy) ?_
    refine v_callV (st := []) [] 29 rfl lv11_335_fewest_1 (al 4 rfl hn) (wk4 dy) (by decide) rfl (Nat.le_refl _) (Nat.le_refl _) ?_
    exact h
set_option maxHeartbeats 8000000 in
set_option maxRecDepth 4000 in
theorem bX11_fewest_56 {d n : Nat} {dy : Nat → Shp} {g : Hp} {P : Pst} {x1 : Int} {x2 : Int} {xs0 : Int} (hn : 100 ≤ n) (h : (i3 xs0) ∧ ((xs0 ≠ 0) → Runs miX11_suspectAllWeights d [.ref 1] n (W0 dy) g (fun v n' S' g' => V miX11_fewest (d + 1) 70 [(0, .ref 1), (1, I_ x1), (2, I_ x2)] (v.toList ++ []) n' S' g' 0 0 P)) ∧ ((xs0 = 0) → Runs miX11_none d [.ref 1, I_ 11] n (W0 dy) g (fun v n' S' g' => V miX11_fewest (d + 1) 65 [(0, .ref 1), (1, I_ x1), (2, I_ x2)] (v.toList ++ []) n' S' g' 0 0 P))) : V miX11_fewest (d + 1) 56 [(0, .ref 1), (1, I_ x1), (2, I_ x2)] [I_ xs0] n (W0 dy) g 0 0 P := by
  have c1 := h.1
  have h := h.2
  refine v_if_ne 30 rfl (tgt := 66) rfl c1 (fun q2 => ?_) (fun q2 => ?_)
  · have h := h.1 q2
    refine v_aload_n 35 0 rfl rfl rfl ?_
    refine v_callV (st := []) [] 36 rfl lv11_338_fewest_10 (al 1 rfl hn) (wk1 dy) (by decide) rfl (Nat.le_refl _) (Nat.le_refl _) ?_
    exact h
  · have h := h.2 q2
    refine v_aload_n 31 0 rfl rfl rfl ?_
    refine v_bipush 32 rfl (by decide) ?_
    refine v_callV (st := []) [I_ 11] 33 rfl lv11_135_fewest_10 (al 1 rfl hn) (wk1 dy) (by decide) rfl (Nat.le_refl _) (Nat.le_refl _) ?_
    exact h
set_option maxHeartbeats 8000000 in
set_option maxRecDepth 4000 in
theorem bX11_fewest_65 {d n : Nat} {dy : Nat → Shp} {g : Hp} {P : Pst} {x1 : Int} {x2 : Int} {xs0 : Int} (hn : 100 ≤ n) (h : P (some (I_ xs0)) n (W0 dy) g) : V miX11_fewest (d + 1) 65 [(0, .ref 1), (1, I_ x1), (2, I_ x2)] [I_ xs0] n (W0 dy) g 0 0 P := by
  exact v_ret (v := some (I_ xs0)) 34 rfl (Nat.zero_le _) (Nat.zero_le _) trivial rfl h
set_option maxHeartbeats 8000000 in
set_option maxRecDepth 4000 in
theorem bX11_fewest_70 {d n : Nat} {dy : Nat → Shp} {g : Hp} {P : Pst} {x1 : Int} {x2 : Int} (hn : 100 ≤ n) (h : P (some (I_ (g 1 11))) n (W0 dy) g) : V miX11_fewest (d + 1) 70 [(0, .ref 1), (1, I_ x1), (2, I_ x2)] [] n (W0 dy) g 0 0 P := by
  refine v_aload_n 37 0 rfl rfl rfl ?_
  refine v_gI 38 rfl fl11_70_10.r (al 1 rfl hn) (wk1 dy) (by decide) rfl (wc1_11 dy) (x := g 1 11) rfl ?_
  refine v_rng fun w1 => ?_
  have p2 : i3 (g 1 11) := rI w1 (q := 11) (al 1 rfl hn) (wk1 dy) rfl rfl
  exact v_ret (v := some (I_ (g 1 11))) 39 rfl (Nat.zero_le _) (Nat.zero_le _) trivial rfl h
theorem wX11_fewest {d n : Nat} {dy : Nat → Shp} {g : Hp} {P : Pst} {x1 : Int} {x2 : Int} (hn : 100 ≤ n) (h : Runs miX11_partAt d [.ref 1, I_ x1] n (W0 dy) g (fun v n' S' g' => V miX11_fewest (d + 1) 7 [(0, .ref 1), (1, I_ x1), (2, I_ x2)] (v.toList ++ [.ref 1, .ref 1]) n' S' g' 0 0 P)) : Runs miX11_fewest (d + 1) [.ref 1, I_ x1, I_ x2] n (W0 dy) g P := Runs.of rfl rfl deX11_fewest (Nat.le_of_ble_eq_true rfl) (bX11_fewest_0 hn h)
theorem fl11_66_10 : FL RX11 66 10 10 true (.array .int) := ⟨RX11, TX11, 13, "MobileMaker", rfl, rfl, by decide, kf10, tbG_in (List.mem_append_right _ (List.mem_of_getElem? (i := 226) (by decide +kernel))) rfl, Or.inl rfl, rfl, by decide +kernel, ⟨tyX11, tyX11_ok⟩, nmX11, fun _ => rfl⟩
set_option maxHeartbeats 8000000 in
set_option maxRecDepth 4000 in
theorem bX11_suspect_0 {d n : Nat} {dy : Nat → Shp} {g : Hp} {P : Pst} {x1 : Int} (hn : 100 ≤ n) (h : (i3 x1) ∧ ((x1 < 0) → P (some (I_ ((-1)))) n (W0 dy) g) ∧ ((0 ≤ x1) → (((g 1 11) ≤ x1) → P (some (I_ ((-1)))) n (W0 dy) g) ∧ ((x1 < (g 1 11)) → ((14 ≤ x1) → P (some (I_ ((-1)))) n (W0 dy) g) ∧ ((x1 < 14) → (0 ≤ x1 ∧ x1 < 14) ∧ P (some (I_ (g 36 x1.toNat))) n (W0 dy) g)))) : V miX11_suspect d 0 [(0, .ref 1), (1, I_ x1)] [] n (W0 dy) g 0 0 P := by
  refine v_iload_n 0 1 rfl rfl rfl ?_
  have c1 := h.1
  have h := h.2
  refine v_if_lt 1 rfl (tgt := 30) rfl c1 (fun q2 => ?_) (fun q2 => ?_)
  · have h := h.1 q2
    refine v_iconst 16 rfl ?_
    exact v_ret (v := some (I_ ((-1)))) 17 rfl (Nat.zero_le _) (Nat.zero_le _) trivial rfl h
  · have h := h.2 q2
    refine v_iload_n 2 1 rfl rfl rfl ?_
    refine v_aload_n 3 0 rfl rfl rfl ?_
    refine v_gI 4 rfl fl11_70_10.r (al 1 rfl hn) (wk1 dy) (by decide) rfl (wc1_11 dy) (x := g 1 11) rfl ?_
    refine v_rng fun w3 => ?_
    have p4 : i3 (g 1 11) := rI w3 (q := 11) (al 1 rfl hn) (wk1 dy) rfl rfl
    refine v_icmp_ge 5 rfl (tgt := 30) rfl c1 p4 (fun q5 => ?_) (fun q5 => ?_)
    · have h := h.1 q5
      refine v_iconst 16 rfl ?_
      exact v_ret (v := some (I_ ((-1)))) 17 rfl (Nat.zero_le _) (Nat.zero_le _) trivial rfl h
    · have h := h.2 q5
      refine v_iload_n 6 1 rfl rfl rfl ?_
      refine v_aload_n 7 0 rfl rfl rfl ?_
      refine v_gK 8 rfl fl11_66_10.r (al 1 rfl hn) (wk1 dy) (by decide) rfl (r := 36) (wc1_10 dy) ?_
      refine v_alen (N := 14) (t := 13) 9 rfl (al 36 rfl hn) (wk36 dy) (by decide) (fun _ => rfl) (wn36 dy) ?_
      refine v_icmp_ge 10 rfl (tgt := 30) rfl c1 (by decide) (fun q6 => ?_) (fun q6 => ?_)
      · have h := h.1 q6
        refine v_iconst 16 rfl ?_
        exact v_ret (v := some (I_ ((-1)))) 17 rfl (Nat.zero_le _) (Nat.zero_le _) trivial rfl h
      · have h := h.2 q6
        refine v_aload_n 11 0 rfl rfl rfl ?_
        refine v_gK 12 rfl fl11_66_10.r (al 1 rfl hn) (wk1 dy) (by decide) rfl (r := 36) (wc1_10 dy) ?_
        refine v_iload_n 13 1 rfl rfl rfl ?_
        have c7 := h.1
        have h := h.2
        refine v_ia (N := 14) 14 rfl (al 36 rfl hn) (wk36 dy) (wn36 dy) (by decide) c7 (y := g 36 x1.toNat) rfl ?_
        refine v_rng fun w8 => ?_
        have p9 : i3 (g 36 x1.toNat) := rI w8 (q := x1.toNat) (al 36 rfl hn) (wk36 dy) rfl rfl
        refine v_goto 15 rfl (tgt := 31) rfl ?_
        exact v_ret (v := some (I_ (g 36 x1.toNat))) 17 rfl (Nat.zero_le _) (Nat.zero_le _) trivial rfl h
theorem wX11_suspect {d n : Nat} {dy : Nat → Shp} {g : Hp} {P : Pst} {x1 : Int} (hn : 100 ≤ n) (h : (i3 x1) ∧ ((x1 < 0) → P (some (I_ ((-1)))) n (W0 dy) g) ∧ ((0 ≤ x1) → (((g 1 11) ≤ x1) → P (some (I_ ((-1)))) n (W0 dy) g) ∧ ((x1 < (g 1 11)) → ((14 ≤ x1) → P (some (I_ ((-1)))) n (W0 dy) g) ∧ ((x1 < 14) → (0 ≤ x1 ∧ x1 < 14) ∧ P (some (I_ (g 36 x1.toNat))) n (W0 dy) g)))) : Runs miX11_suspect d [.ref 1, I_ x1] n (W0 dy) g P := Runs.of rfl rfl deX11_suspect (Nat.le_of_ble_eq_true rfl) (bX11_suspect_0 hn h)
theorem lv11_341_cut_10 : LkV miX11_cut miX11_suspect 341 1 10 := ⟨⟨⟨tbG_in (List.mem_append_right _ (List.mem_of_getElem? (i := 989) (by decide +kernel))) rfl, tbG_in (List.mem_append_right _ (List.mem_of_getElem? (i := 1) (by decide +kernel))) rfl, tbG_in (List.mem_append_right _ (List.mem_of_getElem? (i := 994) (by decide +kernel))) rfl⟩, ⟨by decide +kernel, by decide +kernel, by decide +kernel⟩, by decide⟩, tbG_in (List.mem_append_right _ (List.mem_of_getElem? (i := 987) (by decide +kernel))) rfl, RX11, TX11, 13, rfl, tbG_in (List.mem_append_right _ (List.mem_of_getElem? (i := 988) (by decide +kernel))) rfl⟩
theorem lv11_163_cut_10 : LkV miX11_cut miX11_partAt 163 1 10 := ⟨⟨⟨tbG_in (List.mem_append_right _ (List.mem_of_getElem? (i := 600) (by decide +kernel))) rfl, tbG_in (List.mem_append_right _ (List.mem_of_getElem? (i := 1) (by decide +kernel))) rfl, tbG_in (List.mem_append_right _ (List.mem_of_getElem? (i := 597) (by decide +kernel))) rfl⟩, ⟨by decide +kernel, by decide +kernel, by decide +kernel⟩, by decide⟩, tbG_in (List.mem_append_right _ (List.mem_of_getElem? (i := 599) (by decide +kernel))) rfl, RX11, TX11, 13, rfl, tbG_in (List.mem_append_left _ (List.mem_of_getElem? (i := 13) (by decide +kernel))) rfl⟩
theorem lv11_210_cut_3 : LkV miX11_cut miX2_comeOff 210 0 3 := ⟨⟨⟨tbG_in (List.mem_append_right _ (List.mem_of_getElem? (i := 660) (by decide +kernel))) rfl, tbG_in (List.mem_append_right _ (List.mem_of_getElem? (i := 12) (by decide +kernel))) rfl, tbG_in (List.mem_append_right _ (List.mem_of_getElem? (i := 654) (by decide +kernel))) rfl⟩, ⟨by decide +kernel, by decide +kernel, by decide +kernel⟩, by decide⟩, tbG_in (List.mem_append_right _ (List.mem_of_getElem? (i := 655) (by decide +kernel))) rfl, RX4, TX4, 14, rfl, tbG_in (List.mem_append_right _ (List.mem_of_getElem? (i := 657) (by decide +kernel))) rfl⟩
theorem lv11_210_cut_5 : LkV miX11_cut miX2_comeOff 210 0 5 := ⟨⟨⟨tbG_in (List.mem_append_right _ (List.mem_of_getElem? (i := 660) (by decide +kernel))) rfl, tbG_in (List.mem_append_right _ (List.mem_of_getElem? (i := 12) (by decide +kernel))) rfl, tbG_in (List.mem_append_right _ (List.mem_of_getElem? (i := 654) (by decide +kernel))) rfl⟩, ⟨by decide +kernel, by decide +kernel, by decide +kernel⟩, by decide⟩, tbG_in (List.mem_append_right _ (List.mem_of_getElem? (i := 655) (by decide +kernel))) rfl, RX6, TX6, 16, rfl, tbG_in (List.mem_append_right _ (List.mem_of_getElem? (i := 658) (by decide +kernel))) rfl⟩
theorem lv11_210_cut_9 : LkV miX11_cut miX2_comeOff 210 0 9 := ⟨⟨⟨tbG_in (List.mem_append_right _ (List.mem_of_getElem? (i := 660) (by decide +kernel))) rfl, tbG_in (List.mem_append_right _ (List.mem_of_getElem? (i := 12) (by decide +kernel))) rfl, tbG_in (List.mem_append_right _ (List.mem_of_getElem? (i := 654) (by decide +kernel))) rfl⟩, ⟨by decide +kernel, by decide +kernel, by decide +kernel⟩, by decide⟩, tbG_in (List.mem_append_right _ (List.mem_of_getElem? (i := 655) (by decide +kernel))) rfl, RX10, TX10, 10, rfl, tbG_in (List.mem_append_right _ (List.mem_of_getElem? (i := 659) (by decide +kernel))) rfl⟩
set_option maxHeartbeats 8000000 in
set_option maxRecDepth 4000 in
theorem bX11_cut_0 {d n : Nat} {dy : Nat → Shp} {g : Hp} {P : Pst}  (hn : 100 ≤ n) (h : V miX11_cut (d + 1) 4 [(0, .ref 1), (1, I_ 0), (2, I_ 0)] [] n (W0 dy) g 0 0 P) : V miX11_cut (d + 1) 0 [(0, .ref 1)] [] n (W0 dy) g 0 0 P := by
  refine v_iconst 0 rfl ?_
  refine v_istore_n 1 [1, 0] rfl rfl (by decide) rfl ?_
  refine v_iconst 2 rfl ?_
  refine v_istore_n 3 [1, 2, 0] rfl rfl (by decide) rfl ?_
  exact h
set_option maxHeartbeats 8000000 in
set_option maxRecDepth 4000 in
theorem bX11_cut_4 {d n : Nat} {dy : Nat → Shp} {g : Hp} {P : Pst} {x1 : Int} {x2 : Int} (hn : 100 ≤ n) (h : (i3 x2) ∧ (((g 1 11) ≤ x2) → P (some (I_ x1)) n (W0 dy) (up2 g 1 3 0)) ∧ ((x2 < (g 1 11)) → Runs miX11_suspect d [.ref 1, I_ x2] n (W0 dy) g (fun v n' S' g' => V miX11_cut (d + 1) 18 [(0, .ref 1), (1, I_ x1), (2, I_ x2)] (v.toList ++ [.ref 1]) n' S' g' 0 0 P))) : V miX11_cut (d + 1) 4 [(0, .ref 1), (1, I_ x1), (2, I_ x2)] [] n (W0 dy) g 0 0 P := by
  refine v_iload_n 4 2 rfl rfl rfl ?_
  refine v_aload_n 5 0 rfl rfl rfl ?_
  refine v_gI 6 rfl fl11_70_10.r (al 1 rfl hn) (wk1 dy) (by decide) rfl (wc1_11 dy) (x := g 1 11) rfl ?_
  refine v_rng fun w1 => ?_
  have p2 : i3 (g 1 11) := rI w1 (q := 11) (al 1 rfl hn) (wk1 dy) rfl rfl
  have c3 := h.1
  have h := h.2
  refine v_icmp_ge 7 rfl (tgt := 46) rfl c3 p2 (fun q4 => ?_) (fun q4 => ?_)
  · have h := h.1 q4
    refine v_aload_n 24 0 rfl rfl rfl ?_
    refine v_iconst 25 rfl ?_
    refine v_putI 26 rfl fl11_25_10 (al 1 rfl hn) (wk1 dy) (by decide) rfl (wc1_3 dy) (by decide) ?_
    refine v_iload_n 27 1 rfl rfl rfl ?_
    exact v_ret (v := some (I_ x1)) 28 rfl (Nat.zero_le _) (Nat.zero_le _) trivial rfl h
  · have h := h.2 q4
    refine v_aload_n 8 0 rfl rfl rfl ?_
    refine v_aload_n 9 0 rfl rfl rfl ?_
    refine v_iload_n 10 2 rfl rfl rfl ?_
    refine v_callV (st := [.ref 1]) [I_ x2] 11 rfl lv11_341_cut_10 (al 1 rfl hn) (wk1 dy) (by decide) rfl (Nat.le_refl _) (Nat.le_refl _) ?_
    exact h
set_option maxHeartbeats 8000000 in
set_option maxRecDepth 4000 in
theorem bX11_cut_18 {d n : Nat} {dy : Nat → Shp} {g : Hp} {P : Pst} {x1 : Int} {x2 : Int} {xs1 : Int} (hn : 100 ≤ n) (h : Runs miX11_partAt d [.ref 1, I_ xs1] n (W0 dy) g (fun v n' S' g' => V miX11_cut (d + 1) 21 [(0, .ref 1), (1, I_ x1), (2, I_ x2)] (v.toList ++ []) n' S' g' 0 0 P)) : V miX11_cut (d + 1) 18 [(0, .ref 1), (1, I_ x1), (2, I_ x2)] [I_ xs1, .ref 1] n (W0 dy) g 0 0 P := by
  refine v_callV (st := []) [I_ xs1] 12 rfl lv11_163_cut_10 (al 1 rfl hn) (wk1 dy) (by decide) rfl (Nat.le_refl _) (Nat.le_refl _) ?_
  exact h
set_option maxHeartbeats 8000000 in
set_option maxRecDepth 4000 in
theorem bX11_cut_21 {d n : Nat} {dy : Nat → Shp} {g : Hp} {P : Pst} {x1 : Int} {x2 : Int} {rs0 : Nat} (hn : 100 ≤ n) (h : ((rs0 = 0) → V miX11_cut (d + 1) 4 [(0, .ref 1), (1, I_ x1), (2, I_ (x2 + 1))] [] n (W0 dy) g 0 0 P) ∧ ((0 < rs0) → (Pt n (W0 dy) rs0) ∧ ((((g rs0 3).toNat) = 0) → V miX11_cut (d + 1) 4 [(0, .ref 1), (1, I_ x1), (2, I_ (x2 + 1))] [] n (W0 dy) g 0 0 P) ∧ ((0 < ((g rs0 3).toNat)) → Runs miX2_comeOff d [.ref rs0] n (W0 dy) g (fun v n' S' g' => V miX11_cut (d + 1) 37 [(0, .ref 1), (1, I_ x1), (2, I_ x2), (3, .ref rs0)] (v.toList ++ []) n' S' g' 0 0 P)))) : V miX11_cut (d + 1) 21 [(0, .ref 1), (1, I_ x1), (2, I_ x2)] [.ref rs0] n (W0 dy) g 0 0 P := by
  refine v_astore_n 13 [1, 2, 3, 0] rfl rfl (by decide) rfl ?_
  refine v_aload_n 14 3 rfl rfl rfl ?_
  refine v_ifnull 15 rfl (tgt := 40) rfl (fun q1 => ?_) (fun q1 => ?_)
  · have h := h.1 q1
    refine v_iinc 22 2 [1, 2, 0, 3] rfl rfl (by decide) rfl ?_
    refine v_goto 23 rfl (tgt := 4) rfl ?_
    refine v_loc [0, 1, 2] rfl ?_
    exact h
  · have h := h.2 q1
    refine v_aload_n 16 3 rfl rfl rfl ?_
    have c2 := h.1
    have h := h.2
    refine v_pR 17 rfl ⟨fl11_196_3.r, fl11_196_5.r, fl11_196_9.r⟩ c2 ⟨rfl, rfl, rfl⟩ (x := g rs0 3) rfl ?_
    refine v_ifnull 18 rfl (tgt := 40) rfl (fun q3 => ?_) (fun q3 => ?_)
    · have h := h.1 q3
      refine v_iinc 22 2 [1, 2, 0, 3] rfl rfl (by decide) rfl ?_
      refine v_goto 23 rfl (tgt := 4) rfl ?_
      refine v_loc [0, 1, 2] rfl ?_
      exact h
    · have h := h.2 q3
      refine v_aload_n 19 3 rfl rfl rfl ?_
      refine v_callP (st := []) [] 20 rfl lv11_210_cut_3 lv11_210_cut_5 lv11_210_cut_9 c2 rfl (Nat.le_refl _) (Nat.le_refl _) ?_
      exact h
set_option maxHeartbeats 8000000 in
set_option maxRecDepth 4000 in
theorem bX11_cut_37 {d n : Nat} {dy : Nat → Shp} {g : Hp} {P : Pst} {x1 : Int} {x2 : Int} {r3 : Nat} (hn : 100 ≤ n) (h : V miX11_cut (d + 1) 4 [(0, .ref 1), (1, I_ (x1 + 1)), (2, I_ (x2 + 1))] [] n (W0 dy) g 0 0 P) : V miX11_cut (d + 1) 37 [(0, .ref 1), (1, I_ x1), (2, I_ x2), (3, .ref r3)] [] n (W0 dy) g 0 0 P := by
  refine v_iinc 21 1 [1, 0, 2, 3] rfl rfl (by decide) rfl ?_
  refine v_iinc 22 2 [1, 2, 0, 3] rfl rfl (by decide) rfl ?_
  refine v_goto 23 rfl (tgt := 4) rfl ?_
  refine v_loc [0, 1, 2] rfl ?_
  exact h
theorem wX11_cut {d n : Nat} {dy : Nat → Shp} {g : Hp} {P : Pst}  (hn : 100 ≤ n) (h : V miX11_cut (d + 1) 4 [(0, .ref 1), (1, I_ 0), (2, I_ 0)] [] n (W0 dy) g 0 0 P) : Runs miX11_cut (d + 1) [.ref 1] n (W0 dy) g P := Runs.of rfl rfl deX11_cut (Nat.le_of_ble_eq_true rfl) (bX11_cut_0 hn h)
theorem lv11_163_same_10 : LkV miX11_same miX11_partAt 163 1 10 := ⟨⟨⟨tbG_in (List.mem_append_right _ (List.mem_of_getElem? (i := 600) (by decide +kernel))) rfl, tbG_in (List.mem_append_right _ (List.mem_of_getElem? (i := 1) (by decide +kernel))) rfl, tbG_in (List.mem_append_right _ (List.mem_of_getElem? (i := 597) (by decide +kernel))) rfl⟩, ⟨by decide +kernel, by decide +kernel, by decide +kernel⟩, by decide⟩, tbG_in (List.mem_append_right _ (List.mem_of_getElem? (i := 599) (by decide +kernel))) rfl, RX11, TX11, 13, rfl, tbG_in (List.mem_append_left _ (List.mem_of_getElem? (i := 13) (by decide +kernel))) rfl⟩
theorem lv11_135_same_10 : LkV miX11_same miX11_none 135 1 10 := ⟨⟨⟨tbG_in (List.mem_append_right _ (List.mem_of_getElem? (i := 336) (by decide +kernel))) rfl, tbG_in (List.mem_append_right _ (List.mem_of_getElem? (i := 1) (by decide +kernel))) rfl, tbG_in (List.mem_append_right _ (List.mem_of_getElem? (i := 333) (by decide +kernel))) rfl⟩, ⟨by decide +kernel, by decide +kernel, by decide +kernel⟩, by decide⟩, tbG_in (List.mem_append_right _ (List.mem_of_getElem? (i := 335) (by decide +kernel))) rfl, RX11, TX11, 13, rfl, tbG_in (List.mem_append_left _ (List.mem_of_getElem? (i := 4) (by decide +kernel))) rfl⟩
theorem ls11_344_same : LkS miX11_same miX11_areAlike 344 3 := ⟨⟨⟨tbG_in (List.mem_append_right _ (List.mem_of_getElem? (i := 1001) (by decide +kernel))) rfl, tbG_in (List.mem_append_right _ (List.mem_of_getElem? (i := 1) (by decide +kernel))) rfl, tbG_in (List.mem_append_right _ (List.mem_of_getElem? (i := 999) (by decide +kernel))) rfl⟩, ⟨by decide +kernel, by decide +kernel, by decide +kernel⟩, by decide⟩, tbG_in (List.mem_append_right _ (List.mem_of_getElem? (i := 1000) (by decide +kernel))) rfl⟩
set_option maxHeartbeats 8000000 in
set_option maxRecDepth 4000 in
theorem bX11_same_0 {d n : Nat} {dy : Nat → Shp} {g : Hp} {P : Pst} {x1 : Int} {x2 : Int} (hn : 100 ≤ n) (h : Runs miX11_partAt d [.ref 1, I_ x1] n (W0 dy) g (fun v n' S' g' => V miX11_same (d + 1) 5 [(0, .ref 1), (1, I_ x1), (2, I_ x2)] (v.toList ++ []) n' S' g' 0 0 P)) : V miX11_same (d + 1) 0 [(0, .ref 1), (1, I_ x1), (2, I_ x2)] [] n (W0 dy) g 0 0 P := by
  refine v_aload_n 0 0 rfl rfl rfl ?_
  refine v_iload_n 1 1 rfl rfl rfl ?_
  refine v_callV (st := []) [I_ x1] 2 rfl lv11_163_same_10 (al 1 rfl hn) (wk1 dy) (by decide) rfl (Nat.le_refl _) (Nat.le_refl _) ?_
  exact h
set_option maxHeartbeats 8000000 in
set_option maxRecDepth 4000 in
theorem bX11_same_5 {d n : Nat} {dy : Nat → Shp} {g : Hp} {P : Pst} {x1 : Int} {x2 : Int} {rs0 : Nat} (hn : 100 ≤ n) (h : Runs miX11_partAt d [.ref 1, I_ x2] n (W0 dy) g (fun v n' S' g' => V miX11_same (d + 1) 11 [(0, .ref 1), (1, I_ x1), (2, I_ x2), (3, .ref rs0)] (v.toList ++ []) n' S' g' 0 0 P)) : V miX11_same (d + 1) 5 [(0, .ref 1), (1, I_ x1), (2, I_ x2)] [.ref rs0] n (W0 dy) g 0 0 P := by
  refine v_astore_n 3 [1, 2, 3, 0] rfl rfl (by decide) rfl ?_
  refine v_aload_n 4 0 rfl rfl rfl ?_
  refine v_iload_n 5 2 rfl rfl rfl ?_
  refine v_callV (st := []) [I_ x2] 6 rfl lv11_163_same_10 (al 1 rfl hn) (wk1 dy) (by decide) rfl (Nat.le_refl _) (Nat.le_refl _) ?_
  exact h
set_option maxHeartbeats 8000000 in
set_option maxRecDepth 4000 in
theorem bX11_same_11 {d n : Nat} {dy : Nat → Shp} {g : Hp} {P : Pst} {x1 : Int} {x2 : Int} {r3 : Nat} {rs0 : Nat} (hn : 100 ≤ n) (h : ((r3 = 0) → Runs miX11_none d [.ref 1, I_ 2] n (W0 dy) g (fun v n' S' g' => V miX11_same (d + 1) 27 [(0, .ref 1), (1, I_ x1), (2, I_ x2), (3, .ref r3), (4, .ref rs0)] (v.toList ++ []) n' S' g' 0 0 P)) ∧ ((0 < r3) → ((0 < rs0) → (Pt n (W0 dy) r3) ∧ ((0 < ((g r3 3).toNat)) → Runs miX11_none d [.ref 1, I_ 8] n (W0 dy) g (fun v n' S' g' => V miX11_same (d + 1) 49 [(0, .ref 1), (1, I_ x1), (2, I_ x2), (3, .ref r3), (4, .ref rs0)] (v.toList ++ []) n' S' g' 0 0 P)) ∧ ((((g r3 3).toNat) = 0) → (Pt n (W0 dy) rs0) ∧ ((((g rs0 3).toNat) = 0) → ((r3 = rs0) → P (some (I_ 1)) n (W0 dy) (up2 g 1 3 0)) ∧ ((r3 ≠ rs0) → Runs miX11_areAlike d [.ref r3, .ref rs0, I_ 0] n (W0 dy) (up2 g 1 3 0) (fun v n' S' g' => V miX11_same (d + 1) 68 [(0, .ref 1), (1, I_ x1), (2, I_ x2), (3, .ref r3), (4, .ref rs0)] (v.toList ++ []) n' S' g' 0 0 P))) ∧ ((0 < ((g rs0 3).toNat)) → Runs miX11_none d [.ref 1, I_ 8] n (W0 dy) g (fun v n' S' g' => V miX11_same (d + 1) 49 [(0, .ref 1), (1, I_ x1), (2, I_ x2), (3, .ref r3), (4, .ref rs0)] (v.toList ++ []) n' S' g' 0 0 P)))) ∧ ((rs0 = 0) → Runs miX11_none d [.ref 1, I_ 2] n (W0 dy) g (fun v n' S' g' => V miX11_same (d + 1) 27 [(0, .ref 1), (1, I_ x1), (2, I_ x2), (3, .ref r3), (4, .ref rs0)] (v.toList ++ []) n' S' g' 0 0 P)))) : V miX11_same (d + 1) 11 [(0, .ref 1), (1, I_ x1), (2, I_ x2), (3, .ref r3)] [.ref rs0] n (W0 dy) g 0 0 P := by
  refine v_astore 7 [1, 2, 3, 4, 0] rfl (by decide) rfl ?_
  refine v_aload_n 8 3 rfl rfl rfl ?_
  refine v_ifnull 9 rfl (tgt := 22) rfl (fun q1 => ?_) (fun q1 => ?_)
  · have h := h.1 q1
    refine v_aload_n 12 0 rfl rfl rfl ?_
    refine v_iconst 13 rfl ?_
    refine v_callV (st := []) [I_ 2] 14 rfl lv11_135_same_10 (al 1 rfl hn) (wk1 dy) (by decide) rfl (Nat.le_refl _) (Nat.le_refl _) ?_
    exact h
  · have h := h.2 q1
    refine v_aload 10 4 rfl rfl ?_
    refine v_ifnonnull 11 rfl (tgt := 28) rfl (fun q2 => ?_) (fun q2 => ?_)
    · have h := h.1 q2
      refine v_aload_n 16 3 rfl rfl rfl ?_
      have c3 := h.1
      have h := h.2
      refine v_pR 17 rfl ⟨fl11_196_3.r, fl11_196_5.r, fl11_196_9.r⟩ c3 ⟨rfl, rfl, rfl⟩ (x := g r3 3) rfl ?_
      refine v_ifnonnull 18 rfl (tgt := 43) rfl (fun q4 => ?_) (fun q4 => ?_)
      · have h := h.1 q4
        refine v_aload_n 22 0 rfl rfl rfl ?_
        refine v_bipush 23 rfl (by decide) ?_
        refine v_callV (st := []) [I_ 8] 24 rfl lv11_135_same_10 (al 1 rfl hn) (wk1 dy) (by decide) rfl (Nat.le_refl _) (Nat.le_refl _) ?_
        exact h
      · have h := h.2 q4
        refine v_aload 19 4 rfl rfl ?_
        have c5 := h.1
        have h := h.2
        refine v_pR 20 rfl ⟨fl11_196_3.r, fl11_196_5.r, fl11_196_9.r⟩ c5 ⟨rfl, rfl, rfl⟩ (x := g rs0 3) rfl ?_
        refine v_ifnull 21 rfl (tgt := 50) rfl (fun q6 => ?_) (fun q6 => ?_)
        · have h := h.1 q6
          refine v_aload_n 26 0 rfl rfl rfl ?_
          refine v_iconst 27 rfl ?_
          refine v_putI 28 rfl fl11_25_10 (al 1 rfl hn) (wk1 dy) (by decide) rfl (wc1_3 dy) (by decide) ?_
          refine v_aload_n 29 3 rfl rfl rfl ?_
          refine v_aload 30 4 rfl rfl ?_
          refine v_acmp_eq 31 rfl (tgt := 71) rfl (fun q7 => ?_) (fun q7 => ?_)
          · have h := h.1 q7
            refine v_iconst 37 rfl ?_
            refine v_goto 38 rfl (tgt := 76) rfl ?_
            exact v_ret (v := some (I_ 1)) 40 rfl (Nat.zero_le _) (Nat.zero_le _) trivial rfl h
          · have h := h.2 q7
            refine v_aload_n 32 3 rfl rfl rfl ?_
            refine v_aload 33 4 rfl rfl ?_
            refine v_iconst 34 rfl ?_
            refine v_callS (st := []) [.ref r3, .ref rs0, I_ 0] 35 rfl ls11_344_same rfl (Nat.lt_of_lt_of_le (by decide) hn) (Nat.le_refl _) (Nat.le_refl _) ?_
            exact h
        · have h := h.2 q6
          refine v_aload_n 22 0 rfl rfl rfl ?_
          refine v_bipush 23 rfl (by decide) ?_
          refine v_callV (st := []) [I_ 8] 24 rfl lv11_135_same_10 (al 1 rfl hn) (wk1 dy) (by decide) rfl (Nat.le_refl _) (Nat.le_refl _) ?_
          exact h
    · have h := h.2 q2
      refine v_aload_n 12 0 rfl rfl rfl ?_
      refine v_iconst 13 rfl ?_
      refine v_callV (st := []) [I_ 2] 14 rfl lv11_135_same_10 (al 1 rfl hn) (wk1 dy) (by decide) rfl (Nat.le_refl _) (Nat.le_refl _) ?_
      exact h
set_option maxHeartbeats 8000000 in
set_option maxRecDepth 4000 in
theorem bX11_same_27 {d n : Nat} {dy : Nat → Shp} {g : Hp} {P : Pst} {x1 : Int} {x2 : Int} {r3 : Nat} {r4 : Nat} {xs0 : Int} (hn : 100 ≤ n) (h : P (some (I_ xs0)) n (W0 dy) g) : V miX11_same (d + 1) 27 [(0, .ref 1), (1, I_ x1), (2, I_ x2), (3, .ref r3), (4, .ref r4)] [I_ xs0] n (W0 dy) g 0 0 P := by
  exact v_ret (v := some (I_ xs0)) 15 rfl (Nat.zero_le _) (Nat.zero_le _) trivial rfl h
set_option maxHeartbeats 8000000 in
set_option maxRecDepth 4000 in
theorem bX11_same_49 {d n : Nat} {dy : Nat → Shp} {g : Hp} {P : Pst} {x1 : Int} {x2 : Int} {r3 : Nat} {r4 : Nat} {xs0 : Int} (hn : 100 ≤ n) (h : P (some (I_ xs0)) n (W0 dy) g) : V miX11_same (d + 1) 49 [(0, .ref 1), (1, I_ x1), (2, I_ x2), (3, .ref r3), (4, .ref r4)] [I_ xs0] n (W0 dy) g 0 0 P := by
  exact v_ret (v := some (I_ xs0)) 25 rfl (Nat.zero_le _) (Nat.zero_le _) trivial rfl h
set_option maxHeartbeats 8000000 in
set_option maxRecDepth 4000 in
theorem bX11_same_68 {d n : Nat} {dy : Nat → Shp} {g : Hp} {P : Pst} {x1 : Int} {x2 : Int} {r3 : Nat} {r4 : Nat} {xs0 : Int} (hn : 100 ≤ n) (h : (i3 xs0) ∧ ((xs0 = 0) → P (some (I_ 0)) n (W0 dy) g) ∧ ((xs0 ≠ 0) → P (some (I_ 1)) n (W0 dy) g)) : V miX11_same (d + 1) 68 [(0, .ref 1), (1, I_ x1), (2, I_ x2), (3, .ref r3), (4, .ref r4)] [I_ xs0] n (W0 dy) g 0 0 P := by
  have c1 := h.1
  have h := h.2
  refine v_if_eq 36 rfl (tgt := 75) rfl c1 (fun q2 => ?_) (fun q2 => ?_)
  · have h := h.1 q2
    refine v_iconst 39 rfl ?_
    exact v_ret (v := some (I_ 0)) 40 rfl (Nat.zero_le _) (Nat.zero_le _) trivial rfl h
  · have h := h.2 q2
    refine v_iconst 37 rfl ?_
    refine v_goto 38 rfl (tgt := 76) rfl ?_
    exact v_ret (v := some (I_ 1)) 40 rfl (Nat.zero_le _) (Nat.zero_le _) trivial rfl h
theorem wX11_same {d n : Nat} {dy : Nat → Shp} {g : Hp} {P : Pst} {x1 : Int} {x2 : Int} (hn : 100 ≤ n) (h : Runs miX11_partAt d [.ref 1, I_ x1] n (W0 dy) g (fun v n' S' g' => V miX11_same (d + 1) 5 [(0, .ref 1), (1, I_ x1), (2, I_ x2)] (v.toList ++ []) n' S' g' 0 0 P)) : Runs miX11_same (d + 1) [.ref 1, I_ x1, I_ x2] n (W0 dy) g P := Runs.of rfl rfl deX11_same (Nat.le_of_ble_eq_true rfl) (bX11_same_0 hn h)
theorem fl11_76_10 : FL RX11 76 10 12 true (.object "MobileMaker$Text") := ⟨RX11, TX11, 13, "MobileMaker", rfl, rfl, by decide, kf10, tbG_in (List.mem_append_right _ (List.mem_of_getElem? (i := 228) (by decide +kernel))) rfl, Or.inl rfl, rfl, by decide +kernel, ⟨tyX11, tyX11_ok⟩, nmX11, fun _ => rfl⟩
theorem lv11_239_show_10 : LkV miX11_show miX11_topGiven 239 1 10 := ⟨⟨⟨tbG_in (List.mem_append_right _ (List.mem_of_getElem? (i := 714) (by decide +kernel))) rfl, tbG_in (List.mem_append_right _ (List.mem_of_getElem? (i := 1) (by decide +kernel))) rfl, tbG_in (List.mem_append_right _ (List.mem_of_getElem? (i := 711) (by decide +kernel))) rfl⟩, ⟨by decide +kernel, by decide +kernel, by decide +kernel⟩, by decide⟩, tbG_in (List.mem_append_right _ (List.mem_of_getElem? (i := 713) (by decide +kernel))) rfl, RX11, TX11, 13, rfl, tbG_in (List.mem_append_left _ (List.mem_of_getElem? (i := 16) (by decide +kernel))) rfl⟩
theorem lv11_347_show_7 : LkV miX11_show miX8_tell 347 1 7 := ⟨⟨⟨tbG_in (List.mem_append_right _ (List.mem_of_getElem? (i := 1016) (by decide +kernel))) rfl, tbG_in (List.mem_append_right _ (List.mem_of_getElem? (i := 7) (by decide +kernel))) rfl, tbG_in (List.mem_append_right _ (List.mem_of_getElem? (i := 1013) (by decide +kernel))) rfl⟩, ⟨by decide +kernel, by decide +kernel, by decide +kernel⟩, by decide⟩, tbG_in (List.mem_append_right _ (List.mem_of_getElem? (i := 1014) (by decide +kernel))) rfl, RX8, TX8, 5, rfl, tbG_in (List.mem_append_right _ (List.mem_of_getElem? (i := 1015) (by decide +kernel))) rfl⟩
set_option maxHeartbeats 8000000 in
set_option maxRecDepth 4000 in
theorem bX11_show_0 {d n : Nat} {dy : Nat → Shp} {g : Hp} {P : Pst} {x1 : Int} (hn : 100 ≤ n) (h : Runs miX11_topGiven d [.ref 1, I_ x1] n (W0 dy) g (fun v n' S' g' => V miX11_show (d + 1) 5 [(0, .ref 1), (1, I_ x1)] (v.toList ++ []) n' S' g' 0 0 P)) : V miX11_show (d + 1) 0 [(0, .ref 1), (1, I_ x1)] [] n (W0 dy) g 0 0 P := by
  refine v_aload_n 0 0 rfl rfl rfl ?_
  refine v_iload_n 1 1 rfl rfl rfl ?_
  refine v_callV (st := []) [I_ x1] 2 rfl lv11_239_show_10 (al 1 rfl hn) (wk1 dy) (by decide) rfl (Nat.le_refl _) (Nat.le_refl _) ?_
  exact h
set_option maxHeartbeats 8000000 in
set_option maxRecDepth 4000 in
theorem bX11_show_5 {d n : Nat} {dy : Nat → Shp} {g : Hp} {P : Pst} {x1 : Int} {rs0 : Nat} (hn : 100 ≤ n) (h : ((0 < rs0) → Runs miX8_tell d [.ref 37, .ref rs0] n (W0 dy) g (fun v n' S' g' => V miX11_show (d + 1) 20 [(0, .ref 1), (1, I_ x1), (2, .ref rs0)] (v.toList ++ []) n' S' g' 0 0 P)) ∧ ((rs0 = 0) → P (some (I_ ((-1)))) n (W0 dy) g)) : V miX11_show (d + 1) 5 [(0, .ref 1), (1, I_ x1)] [.ref rs0] n (W0 dy) g 0 0 P := by
  refine v_astore_n 3 [1, 2, 0] rfl rfl (by decide) rfl ?_
  refine v_aload_n 4 2 rfl rfl rfl ?_
  refine v_ifnonnull 5 rfl (tgt := 12) rfl (fun q1 => ?_) (fun q1 => ?_)
  · have h := h.1 q1
    refine v_aload_n 8 0 rfl rfl rfl ?_
    refine v_gK 9 rfl fl11_76_10.r (al 1 rfl hn) (wk1 dy) (by decide) rfl (r := 37) (wc1_12 dy) ?_
    refine v_aload_n 10 2 rfl rfl rfl ?_
    refine v_callV (st := []) [.ref rs0] 11 rfl lv11_347_show_7 (al 37 rfl hn) (wk37 dy) (by decide) rfl (Nat.le_refl _) (Nat.le_refl _) ?_
    exact h
  · have h := h.2 q1
    refine v_iconst 6 rfl ?_
    exact v_ret (v := some (I_ ((-1)))) 7 rfl (Nat.zero_le _) (Nat.zero_le _) trivial rfl h
set_option maxHeartbeats 8000000 in
set_option maxRecDepth 4000 in
theorem bX11_show_20 {d n : Nat} {dy : Nat → Shp} {g : Hp} {P : Pst} {x1 : Int} {r2 : Nat} {xs0 : Int} (hn : 100 ≤ n) (h : P (some (I_ xs0)) n (W0 dy) g) : V miX11_show (d + 1) 20 [(0, .ref 1), (1, I_ x1), (2, .ref r2)] [I_ xs0] n (W0 dy) g 0 0 P := by
  exact v_ret (v := some (I_ xs0)) 12 rfl (Nat.zero_le _) (Nat.zero_le _) trivial rfl h
theorem wX11_show {d n : Nat} {dy : Nat → Shp} {g : Hp} {P : Pst} {x1 : Int} (hn : 100 ≤ n) (h : Runs miX11_topGiven d [.ref 1, I_ x1] n (W0 dy) g (fun v n' S' g' => V miX11_show (d + 1) 5 [(0, .ref 1), (1, I_ x1)] (v.toList ++ []) n' S' g' 0 0 P)) : Runs miX11_show (d + 1) [.ref 1, I_ x1] n (W0 dy) g P := Runs.of rfl rfl deX11_show (Nat.le_of_ble_eq_true rfl) (bX11_show_0 hn h)
set_option maxHeartbeats 8000000 in
set_option maxRecDepth 4000 in
theorem bX11_allows_0 {d n : Nat} {dy : Nat → Shp} {g : Hp} {P : Pst}  (hn : 100 ≤ n) (h : P (some (I_ 1)) n (W0 dy) (up2 g 1 3 0)) : V miX11_allows d 0 [(0, .ref 1)] [] n (W0 dy) g 0 0 P := by
  refine v_aload_n 0 0 rfl rfl rfl ?_
  refine v_iconst 1 rfl ?_
  refine v_putI 2 rfl fl11_25_10 (al 1 rfl hn) (wk1 dy) (by decide) rfl (wc1_3 dy) (by decide) ?_
  refine v_iconst 3 rfl ?_
  exact v_ret (v := some (I_ 1)) 4 rfl (Nat.zero_le _) (Nat.zero_le _) (Or.inr rfl) rfl h
theorem wX11_allows {d n : Nat} {dy : Nat → Shp} {g : Hp} {P : Pst}  (hn : 100 ≤ n) (h : P (some (I_ 1)) n (W0 dy) (up2 g 1 3 0)) : Runs miX11_allows d [.ref 1] n (W0 dy) g P := Runs.of rfl rfl deX11_allows (Nat.le_of_ble_eq_true rfl) (bX11_allows_0 hn h)
set_option maxHeartbeats 8000000 in
set_option maxRecDepth 4000 in
theorem bX11_refuses_0 {d n : Nat} {dy : Nat → Shp} {g : Hp} {P : Pst} {x1 : Int} (hn : 100 ≤ n) (h : (i3 x1) ∧ P (some (I_ 0)) n (W0 dy) (up2 g 1 3 x1)) : V miX11_refuses d 0 [(0, .ref 1), (1, I_ x1)] [] n (W0 dy) g 0 0 P := by
  refine v_aload_n 0 0 rfl rfl rfl ?_
  refine v_iload_n 1 1 rfl rfl rfl ?_
  have c1 := h.1
  have h := h.2
  refine v_putI 2 rfl fl11_25_10 (al 1 rfl hn) (wk1 dy) (by decide) rfl (wc1_3 dy) c1 ?_
  refine v_iconst 3 rfl ?_
  exact v_ret (v := some (I_ 0)) 4 rfl (Nat.zero_le _) (Nat.zero_le _) (Or.inl rfl) rfl h
theorem wX11_refuses {d n : Nat} {dy : Nat → Shp} {g : Hp} {P : Pst} {x1 : Int} (hn : 100 ≤ n) (h : (i3 x1) ∧ P (some (I_ 0)) n (W0 dy) (up2 g 1 3 x1)) : Runs miX11_refuses d [.ref 1, I_ x1] n (W0 dy) g P := Runs.of rfl rfl deX11_refuses (Nat.le_of_ble_eq_true rfl) (bX11_refuses_0 hn h)
set_option maxHeartbeats 8000000 in
set_option maxRecDepth 4000 in
theorem bX11_none_0 {d n : Nat} {dy : Nat → Shp} {g : Hp} {P : Pst} {x1 : Int} (hn : 100 ≤ n) (h : (i3 x1) ∧ P (some (I_ ((-1)))) n (W0 dy) (up2 g 1 3 x1)) : V miX11_none d 0 [(0, .ref 1), (1, I_ x1)] [] n (W0 dy) g 0 0 P := by
  refine v_aload_n 0 0 rfl rfl rfl ?_
  refine v_iload_n 1 1 rfl rfl rfl ?_
  have c1 := h.1
  have h := h.2
  refine v_putI 2 rfl fl11_25_10 (al 1 rfl hn) (wk1 dy) (by decide) rfl (wc1_3 dy) c1 ?_
  refine v_iconst 3 rfl ?_
  exact v_ret (v := some (I_ ((-1)))) 4 rfl (Nat.zero_le _) (Nat.zero_le _) trivial rfl h
theorem wX11_none {d n : Nat} {dy : Nat → Shp} {g : Hp} {P : Pst} {x1 : Int} (hn : 100 ≤ n) (h : (i3 x1) ∧ P (some (I_ ((-1)))) n (W0 dy) (up2 g 1 3 x1)) : Runs miX11_none d [.ref 1, I_ x1] n (W0 dy) g P := Runs.of rfl rfl deX11_none (Nat.le_of_ble_eq_true rfl) (bX11_none_0 hn h)
theorem fl11_11_10 : FL RX11 11 10 0 true (.array (.object "MobileMaker$Tray")) := ⟨RX11, TX11, 13, "MobileMaker", rfl, rfl, by decide, kf10, tbG_in (List.mem_append_right _ (List.mem_of_getElem? (i := 216) (by decide +kernel))) rfl, Or.inl rfl, rfl, by decide +kernel, ⟨tyX11, tyX11_ok⟩, nmX11, fun _ => rfl⟩
set_option maxHeartbeats 8000000 in
set_option maxRecDepth 4000 in
theorem bX11_trayAt_0 {d n : Nat} {dy : Nat → Shp} {g : Hp} {P : Pst} {x1 : Int} (hn : 100 ≤ n) (h : (i3 x1) ∧ ((x1 < 0) → P (some (.ref 0)) n (W0 dy) g) ∧ ((0 ≤ x1) → ((6 ≤ x1) → P (some (.ref 0)) n (W0 dy) g) ∧ ((x1 < 6) → (0 ≤ x1 ∧ x1 < 6) ∧ P (some (.ref ((g 2 x1.toNat).toNat))) n (W0 dy) g))) : V miX11_trayAt d 0 [(0, .ref 1), (1, I_ x1)] [] n (W0 dy) g 0 0 P := by
  refine v_iload_n 0 1 rfl rfl rfl ?_
  have c1 := h.1
  have h := h.2
  refine v_if_lt 1 rfl (tgt := 22) rfl c1 (fun q2 => ?_) (fun q2 => ?_)
  · have h := h.1 q2
    refine v_null 12 rfl ?_
    exact v_ret (v := some (.ref 0)) 13 rfl (Nat.zero_le _) (Nat.zero_le _) trivial rfl h
  · have h := h.2 q2
    refine v_iload_n 2 1 rfl rfl rfl ?_
    refine v_aload_n 3 0 rfl rfl rfl ?_
    refine v_gK 4 rfl fl11_11_10.r (al 1 rfl hn) (wk1 dy) (by decide) rfl (r := 2) (wc1_0 dy) ?_
    refine v_alen (N := 6) (t := 18) 5 rfl (al 2 rfl hn) (wk2 dy) (by decide) (fun _ => rfl) (wn2 dy) ?_
    refine v_icmp_ge 6 rfl (tgt := 22) rfl c1 (by decide) (fun q3 => ?_) (fun q3 => ?_)
    · have h := h.1 q3
      refine v_null 12 rfl ?_
      exact v_ret (v := some (.ref 0)) 13 rfl (Nat.zero_le _) (Nat.zero_le _) trivial rfl h
    · have h := h.2 q3
      refine v_aload_n 7 0 rfl rfl rfl ?_
      refine v_gK 8 rfl fl11_11_10.r (al 1 rfl hn) (wk1 dy) (by decide) rfl (r := 2) (wc1_0 dy) ?_
      refine v_iload_n 9 1 rfl rfl rfl ?_
      have c4 := h.1
      have h := h.2
      refine v_ta (N := 6) 10 rfl (al 2 rfl hn) (wk2 dy) (wn2 dy) (by decide) c4 (y := g 2 x1.toNat) rfl ?_
      refine v_goto 11 rfl (tgt := 23) rfl ?_
      exact v_ret (v := some (.ref ((g 2 x1.toNat).toNat))) 13 rfl (Nat.zero_le _) (Nat.zero_le _) trivial rfl h
theorem wX11_trayAt {d n : Nat} {dy : Nat → Shp} {g : Hp} {P : Pst} {x1 : Int} (hn : 100 ≤ n) (h : (i3 x1) ∧ ((x1 < 0) → P (some (.ref 0)) n (W0 dy) g) ∧ ((0 ≤ x1) → ((6 ≤ x1) → P (some (.ref 0)) n (W0 dy) g) ∧ ((x1 < 6) → (0 ≤ x1 ∧ x1 < 6) ∧ P (some (.ref ((g 2 x1.toNat).toNat))) n (W0 dy) g))) : Runs miX11_trayAt d [.ref 1, I_ x1] n (W0 dy) g P := Runs.of rfl rfl deX11_trayAt (Nat.le_of_ble_eq_true rfl) (bX11_trayAt_0 hn h)
theorem fl11_21_10 : FL RX11 21 10 2 false .int := ⟨RX11, TX11, 13, "MobileMaker", rfl, rfl, by decide, kf10, tbG_in (List.mem_append_right _ (List.mem_of_getElem? (i := 218) (by decide +kernel))) rfl, Or.inl rfl, rfl, by decide +kernel, ⟨tyX11, tyX11_ok⟩, nmX11, fun h => by cases h⟩
theorem fl11_17_10 : FL RX11 17 10 1 true (.array (.object "MobileMaker$Part")) := ⟨RX11, TX11, 13, "MobileMaker", rfl, rfl, by decide, kf10, tbG_in (List.mem_append_right _ (List.mem_of_getElem? (i := 217) (by decide +kernel))) rfl, Or.inl rfl, rfl, by decide +kernel, ⟨tyX11, tyX11_ok⟩, nmX11, fun _ => rfl⟩
set_option maxHeartbeats 8000000 in
set_option maxRecDepth 4000 in
theorem bX11_partAt_0 {d n : Nat} {dy : Nat → Shp} {g : Hp} {P : Pst} {x1 : Int} (hn : 100 ≤ n) (h : (i3 x1) ∧ ((x1 < 0) → P (some (.ref 0)) n (W0 dy) g) ∧ ((0 ≤ x1) → (((g 1 2) ≤ x1) → P (some (.ref 0)) n (W0 dy) g) ∧ ((x1 < (g 1 2)) → ((60 ≤ x1) → P (some (.ref 0)) n (W0 dy) g) ∧ ((x1 < 60) → (0 ≤ x1 ∧ x1 < 60) ∧ P (some (.ref ((g 3 x1.toNat).toNat))) n (W0 dy) g)))) : V miX11_partAt d 0 [(0, .ref 1), (1, I_ x1)] [] n (W0 dy) g 0 0 P := by
  refine v_iload_n 0 1 rfl rfl rfl ?_
  have c1 := h.1
  have h := h.2
  refine v_if_lt 1 rfl (tgt := 30) rfl c1 (fun q2 => ?_) (fun q2 => ?_)
  · have h := h.1 q2
    refine v_null 16 rfl ?_
    exact v_ret (v := some (.ref 0)) 17 rfl (Nat.zero_le _) (Nat.zero_le _) trivial rfl h
  · have h := h.2 q2
    refine v_iload_n 2 1 rfl rfl rfl ?_
    refine v_aload_n 3 0 rfl rfl rfl ?_
    refine v_gI 4 rfl fl11_21_10.r (al 1 rfl hn) (wk1 dy) (by decide) rfl (wc1_2 dy) (x := g 1 2) rfl ?_
    refine v_rng fun w3 => ?_
    have p4 : i3 (g 1 2) := rI w3 (q := 2) (al 1 rfl hn) (wk1 dy) rfl rfl
    refine v_icmp_ge 5 rfl (tgt := 30) rfl c1 p4 (fun q5 => ?_) (fun q5 => ?_)
    · have h := h.1 q5
      refine v_null 16 rfl ?_
      exact v_ret (v := some (.ref 0)) 17 rfl (Nat.zero_le _) (Nat.zero_le _) trivial rfl h
    · have h := h.2 q5
      refine v_iload_n 6 1 rfl rfl rfl ?_
      refine v_aload_n 7 0 rfl rfl rfl ?_
      refine v_gK 8 rfl fl11_17_10.r (al 1 rfl hn) (wk1 dy) (by decide) rfl (r := 3) (wc1_1 dy) ?_
      refine v_alen (N := 60) (t := 16) 9 rfl (al 3 rfl hn) (wk3 dy) (by decide) (fun _ => rfl) (wn3 dy) ?_
      refine v_icmp_ge 10 rfl (tgt := 30) rfl c1 (by decide) (fun q6 => ?_) (fun q6 => ?_)
      · have h := h.1 q6
        refine v_null 16 rfl ?_
        exact v_ret (v := some (.ref 0)) 17 rfl (Nat.zero_le _) (Nat.zero_le _) trivial rfl h
      · have h := h.2 q6
        refine v_aload_n 11 0 rfl rfl rfl ?_
        refine v_gK 12 rfl fl11_17_10.r (al 1 rfl hn) (wk1 dy) (by decide) rfl (r := 3) (wc1_1 dy) ?_
        refine v_iload_n 13 1 rfl rfl rfl ?_
        have c7 := h.1
        have h := h.2
        refine v_pa (N := 60) 14 rfl (al 3 rfl hn) (wk3 dy) (wn3 dy) (by decide) c7 (y := g 3 x1.toNat) rfl ?_
        refine v_goto 15 rfl (tgt := 31) rfl ?_
        exact v_ret (v := some (.ref ((g 3 x1.toNat).toNat))) 17 rfl (Nat.zero_le _) (Nat.zero_le _) trivial rfl h
theorem wX11_partAt {d n : Nat} {dy : Nat → Shp} {g : Hp} {P : Pst} {x1 : Int} (hn : 100 ≤ n) (h : (i3 x1) ∧ ((x1 < 0) → P (some (.ref 0)) n (W0 dy) g) ∧ ((0 ≤ x1) → (((g 1 2) ≤ x1) → P (some (.ref 0)) n (W0 dy) g) ∧ ((x1 < (g 1 2)) → ((60 ≤ x1) → P (some (.ref 0)) n (W0 dy) g) ∧ ((x1 < 60) → (0 ≤ x1 ∧ x1 < 60) ∧ P (some (.ref ((g 3 x1.toNat).toNat))) n (W0 dy) g)))) : Runs miX11_partAt d [.ref 1, I_ x1] n (W0 dy) g P := Runs.of rfl rfl deX11_partAt (Nat.le_of_ble_eq_true rfl) (bX11_partAt_0 hn h)
set_option maxHeartbeats 8000000 in
set_option maxRecDepth 4000 in
theorem bX11_asRod_0 {d n : Nat} {dy : Nat → Shp} {g : Hp} {P : Pst} {r0 : Nat} (hn : 100 ≤ n) (h : (r0 = 0 ∨ Pt n (W0 dy) r0) ∧ (((isK (W0 dy) r0 5) = 0) → P (some (.ref 0)) n (W0 dy) g) ∧ (((isK (W0 dy) r0 5) ≠ 0) → (Ob n (W0 dy) r0 5) ∧ P (some (.ref r0)) n (W0 dy) g)) : V miX11_asRod d 0 [(0, .ref r0)] [] n (W0 dy) g 0 0 P := by
  refine v_aload_n 0 0 rfl rfl rfl ?_
  have c1 := h.1
  have h := h.2
  refine v_instRod 1 rfl (tbG_in (List.mem_append_right _ (List.mem_of_getElem? (i := 440) (by decide +kernel))) rfl) c1 ?_
  refine v_if_eq 2 rfl (tgt := 14) rfl (isK_r _ _ _) (fun q2 => ?_) (fun q2 => ?_)
  · have h := h.1 q2
    refine v_null 8 rfl ?_
    exact v_ret (v := some (.ref 0)) 9 rfl (Nat.zero_le _) (Nat.zero_le _) trivial rfl h
  · have h := h.2 q2
    refine v_aload_n 3 0 rfl rfl rfl ?_
    have c3 := h.1
    have h := h.2
    refine v_cast (ci := 5) 4 rfl (tbG_in (List.mem_append_right _ (List.mem_of_getElem? (i := 440) (by decide +kernel))) rfl) rfl (by decide) c3 ?_
    refine v_astore_n 5 [1, 0] rfl rfl (by decide) rfl ?_
    refine v_aload_n 6 1 rfl rfl rfl ?_
    exact v_ret (v := some (.ref r0)) 7 rfl (Nat.zero_le _) (Nat.zero_le _) trivial rfl h
theorem wX11_asRod {d n : Nat} {dy : Nat → Shp} {g : Hp} {P : Pst} {r0 : Nat} (hn : 100 ≤ n) (h : (r0 = 0 ∨ Pt n (W0 dy) r0) ∧ (((isK (W0 dy) r0 5) = 0) → P (some (.ref 0)) n (W0 dy) g) ∧ (((isK (W0 dy) r0 5) ≠ 0) → (Ob n (W0 dy) r0 5) ∧ P (some (.ref r0)) n (W0 dy) g)) : Runs miX11_asRod d [.ref r0] n (W0 dy) g P := Runs.of rfl rfl deX11_asRod (Nat.le_of_ble_eq_true rfl) (bX11_asRod_0 hn h)
theorem lv11_111_placeStatus_8 : LkV miX11_placeStatus miX9_isMissing 111 0 8 := ⟨⟨⟨tbG_in (List.mem_append_right _ (List.mem_of_getElem? (i := 293) (by decide +kernel))) rfl, tbG_in (List.mem_append_right _ (List.mem_of_getElem? (i := 8) (by decide +kernel))) rfl, tbG_in (List.mem_append_right _ (List.mem_of_getElem? (i := 290) (by decide +kernel))) rfl⟩, ⟨by decide +kernel, by decide +kernel, by decide +kernel⟩, by decide⟩, tbG_in (List.mem_append_right _ (List.mem_of_getElem? (i := 291) (by decide +kernel))) rfl, RX9, TX9, 3, rfl, tbG_in (List.mem_append_right _ (List.mem_of_getElem? (i := 292) (by decide +kernel))) rfl⟩
theorem lv11_362_placeStatus_8 : LkV miX11_placeStatus miX9_has 362 1 8 := ⟨⟨⟨tbG_in (List.mem_append_right _ (List.mem_of_getElem? (i := 297) (by decide +kernel))) rfl, tbG_in (List.mem_append_right _ (List.mem_of_getElem? (i := 8) (by decide +kernel))) rfl, tbG_in (List.mem_append_right _ (List.mem_of_getElem? (i := 294) (by decide +kernel))) rfl⟩, ⟨by decide +kernel, by decide +kernel, by decide +kernel⟩, by decide⟩, tbG_in (List.mem_append_right _ (List.mem_of_getElem? (i := 295) (by decide +kernel))) rfl, RX9, TX9, 3, rfl, tbG_in (List.mem_append_right _ (List.mem_of_getElem? (i := 296) (by decide +kernel))) rfl⟩
set_option maxHeartbeats 8000000 in
set_option maxRecDepth 4000 in
theorem bX11_placeStatus_0 {d n : Nat} {dy : Nat → Shp} {g : Hp} {P : Pst} {r0 : Nat} {x1 : Int} (hn : 100 ≤ n) (h : ((0 < r0) → (Tr n (W0 dy) r0) ∧ Runs miX9_isMissing d [.ref r0] n (W0 dy) g (fun v n' S' g' => V miX11_placeStatus (d + 1) 10 [(0, .ref r0), (1, I_ x1)] (v.toList ++ []) n' S' g' 0 0 P)) ∧ ((r0 = 0) → P (some (I_ 1)) n (W0 dy) g)) : V miX11_placeStatus (d + 1) 0 [(0, .ref r0), (1, I_ x1)] [] n (W0 dy) g 0 0 P := by
  refine v_aload_n 0 0 rfl rfl rfl ?_
  refine v_ifnonnull 1 rfl (tgt := 6) rfl (fun q1 => ?_) (fun q1 => ?_)
  · have h := h.1 q1
    refine v_aload_n 4 0 rfl rfl rfl ?_
    have c2 := h.1
    have h := h.2
    refine v_callV (st := []) [] 5 rfl lv11_111_placeStatus_8 c2.1 c2.2.1 (by decide) rfl (Nat.le_refl _) (Nat.le_refl _) ?_
    exact h
  · have h := h.2 q1
    refine v_iconst 2 rfl ?_
    exact v_ret (v := some (I_ 1)) 3 rfl (Nat.zero_le _) (Nat.zero_le _) trivial rfl h
set_option maxHeartbeats 8000000 in
set_option maxRecDepth 4000 in
theorem bX11_placeStatus_10 {d n : Nat} {dy : Nat → Shp} {g : Hp} {P : Pst} {r0 : Nat} {x1 : Int} {xs0 : Int} (hn : 100 ≤ n) (h : (i3 xs0) ∧ ((xs0 = 0) → (Tr n (W0 dy) r0) ∧ Runs miX9_has d [.ref r0, I_ x1] n (W0 dy) g (fun v n' S' g' => V miX11_placeStatus (d + 1) 20 [(0, .ref r0), (1, I_ x1)] (v.toList ++ []) n' S' g' 0 0 P)) ∧ ((xs0 ≠ 0) → P (some (I_ 3)) n (W0 dy) g)) : V miX11_placeStatus (d + 1) 10 [(0, .ref r0), (1, I_ x1)] [I_ xs0] n (W0 dy) g 0 0 P := by
  have c1 := h.1
  have h := h.2
  refine v_if_eq 6 rfl (tgt := 15) rfl c1 (fun q2 => ?_) (fun q2 => ?_)
  · have h := h.1 q2
    refine v_aload_n 9 0 rfl rfl rfl ?_
    refine v_iload_n 10 1 rfl rfl rfl ?_
    have c3 := h.1
    have h := h.2
    refine v_callV (st := []) [I_ x1] 11 rfl lv11_362_placeStatus_8 c3.1 c3.2.1 (by decide) rfl (Nat.le_refl _) (Nat.le_refl _) ?_
    exact h
  · have h := h.2 q2
    refine v_iconst 7 rfl ?_
    exact v_ret (v := some (I_ 3)) 8 rfl (Nat.zero_le _) (Nat.zero_le _) trivial rfl h
set_option maxHeartbeats 8000000 in
set_option maxRecDepth 4000 in
theorem bX11_placeStatus_20 {d n : Nat} {dy : Nat → Shp} {g : Hp} {P : Pst} {r0 : Nat} {x1 : Int} {xs0 : Int} (hn : 100 ≤ n) (h : (i3 xs0) ∧ ((xs0 = 0) → P (some (I_ 4)) n (W0 dy) g) ∧ ((xs0 ≠ 0) → P (some (I_ 0)) n (W0 dy) g)) : V miX11_placeStatus (d + 1) 20 [(0, .ref r0), (1, I_ x1)] [I_ xs0] n (W0 dy) g 0 0 P := by
  have c1 := h.1
  have h := h.2
  refine v_if_eq 12 rfl (tgt := 27) rfl c1 (fun q2 => ?_) (fun q2 => ?_)
  · have h := h.1 q2
    refine v_iconst 15 rfl ?_
    exact v_ret (v := some (I_ 4)) 16 rfl (Nat.zero_le _) (Nat.zero_le _) trivial rfl h
  · have h := h.2 q2
    refine v_iconst 13 rfl ?_
    refine v_goto 14 rfl (tgt := 28) rfl ?_
    exact v_ret (v := some (I_ 0)) 16 rfl (Nat.zero_le _) (Nat.zero_le _) trivial rfl h
theorem wX11_placeStatus {d n : Nat} {dy : Nat → Shp} {g : Hp} {P : Pst} {r0 : Nat} {x1 : Int} (hn : 100 ≤ n) (h : ((0 < r0) → (Tr n (W0 dy) r0) ∧ Runs miX9_isMissing d [.ref r0] n (W0 dy) g (fun v n' S' g' => V miX11_placeStatus (d + 1) 10 [(0, .ref r0), (1, I_ x1)] (v.toList ++ []) n' S' g' 0 0 P)) ∧ ((r0 = 0) → P (some (I_ 1)) n (W0 dy) g)) : Runs miX11_placeStatus (d + 1) [.ref r0, I_ x1] n (W0 dy) g P := Runs.of rfl rfl deX11_placeStatus (Nat.le_of_ble_eq_true rfl) (bX11_placeStatus_0 hn h)
theorem lv11_163_rodGiven_10 : LkV miX11_rodGiven miX11_partAt 163 1 10 := ⟨⟨⟨tbG_in (List.mem_append_right _ (List.mem_of_getElem? (i := 600) (by decide +kernel))) rfl, tbG_in (List.mem_append_right _ (List.mem_of_getElem? (i := 1) (by decide +kernel))) rfl, tbG_in (List.mem_append_right _ (List.mem_of_getElem? (i := 597) (by decide +kernel))) rfl⟩, ⟨by decide +kernel, by decide +kernel, by decide +kernel⟩, by decide⟩, tbG_in (List.mem_append_right _ (List.mem_of_getElem? (i := 599) (by decide +kernel))) rfl, RX11, TX11, 13, rfl, tbG_in (List.mem_append_left _ (List.mem_of_getElem? (i := 13) (by decide +kernel))) rfl⟩
theorem ls11_182_rodGiven : LkS miX11_rodGiven miX11_asRod 182 1 := ⟨⟨⟨tbG_in (List.mem_append_right _ (List.mem_of_getElem? (i := 620) (by decide +kernel))) rfl, tbG_in (List.mem_append_right _ (List.mem_of_getElem? (i := 1) (by decide +kernel))) rfl, tbG_in (List.mem_append_right _ (List.mem_of_getElem? (i := 618) (by decide +kernel))) rfl⟩, ⟨by decide +kernel, by decide +kernel, by decide +kernel⟩, by decide⟩, tbG_in (List.mem_append_right _ (List.mem_of_getElem? (i := 619) (by decide +kernel))) rfl⟩
set_option maxHeartbeats 8000000 in
set_option maxRecDepth 4000 in
theorem bX11_rodGiven_0 {d n : Nat} {dy : Nat → Shp} {g : Hp} {P : Pst} {x1 : Int} (hn : 100 ≤ n) (h : Runs miX11_partAt d [.ref 1, I_ x1] n (W0 dy) g (fun v n' S' g' => V miX11_rodGiven (d + 1) 5 [(0, .ref 1), (1, I_ x1)] (v.toList ++ []) n' S' g' 0 0 P)) : V miX11_rodGiven (d + 1) 0 [(0, .ref 1), (1, I_ x1)] [] n (W0 dy) g 0 0 P := by
  refine v_aload_n 0 0 rfl rfl rfl ?_
  refine v_iload_n 1 1 rfl rfl rfl ?_
  refine v_callV (st := []) [I_ x1] 2 rfl lv11_163_rodGiven_10 (al 1 rfl hn) (wk1 dy) (by decide) rfl (Nat.le_refl _) (Nat.le_refl _) ?_
  exact h
set_option maxHeartbeats 8000000 in
set_option maxRecDepth 4000 in
theorem bX11_rodGiven_5 {d n : Nat} {dy : Nat → Shp} {g : Hp} {P : Pst} {x1 : Int} {rs0 : Nat} (hn : 100 ≤ n) (h : Runs miX11_asRod d [.ref rs0] n (W0 dy) g (fun v n' S' g' => V miX11_rodGiven (d + 1) 10 [(0, .ref 1), (1, I_ x1), (2, .ref rs0)] (v.toList ++ []) n' S' g' 0 0 P)) : V miX11_rodGiven (d + 1) 5 [(0, .ref 1), (1, I_ x1)] [.ref rs0] n (W0 dy) g 0 0 P := by
  refine v_astore_n 3 [1, 2, 0] rfl rfl (by decide) rfl ?_
  refine v_aload_n 4 2 rfl rfl rfl ?_
  refine v_callS (st := []) [.ref rs0] 5 rfl ls11_182_rodGiven rfl (Nat.lt_of_lt_of_le (by decide) hn) (Nat.le_refl _) (Nat.le_refl _) ?_
  exact h
set_option maxHeartbeats 8000000 in
set_option maxRecDepth 4000 in
theorem bX11_rodGiven_10 {d n : Nat} {dy : Nat → Shp} {g : Hp} {P : Pst} {x1 : Int} {r2 : Nat} {rs0 : Nat} (hn : 100 ≤ n) (h : ((0 < r2) → ((0 < rs0) → P (some (.ref rs0)) n (W0 dy) (up2 g 1 3 0)) ∧ ((rs0 = 0) → P (some (.ref rs0)) n (W0 dy) (up2 g 1 3 5))) ∧ ((r2 = 0) → P (some (.ref rs0)) n (W0 dy) (up2 g 1 3 2))) : V miX11_rodGiven (d + 1) 10 [(0, .ref 1), (1, I_ x1), (2, .ref r2)] [.ref rs0] n (W0 dy) g 0 0 P := by
  refine v_astore_n 6 [1, 2, 3, 0] rfl rfl (by decide) rfl ?_
  refine v_aload_n 7 0 rfl rfl rfl ?_
  refine v_aload_n 8 2 rfl rfl rfl ?_
  refine v_ifnonnull 9 rfl (tgt := 20) rfl (fun q1 => ?_) (fun q1 => ?_)
  · have h := h.1 q1
    refine v_aload_n 12 3 rfl rfl rfl ?_
    refine v_ifnonnull 13 rfl (tgt := 28) rfl (fun q2 => ?_) (fun q2 => ?_)
    · have h := h.1 q2
      refine v_iconst 16 rfl ?_
      refine v_putI 17 rfl fl11_25_10 (al 1 rfl hn) (wk1 dy) (by decide) rfl (wc1_3 dy) (by decide) ?_
      refine v_aload_n 18 3 rfl rfl rfl ?_
      exact v_ret (v := some (.ref rs0)) 19 rfl (Nat.zero_le _) (Nat.zero_le _) trivial rfl h
    · have h := h.2 q2
      refine v_iconst 14 rfl ?_
      refine v_goto 15 rfl (tgt := 29) rfl ?_
      refine v_putI 17 rfl fl11_25_10 (al 1 rfl hn) (wk1 dy) (by decide) rfl (wc1_3 dy) (by decide) ?_
      refine v_aload_n 18 3 rfl rfl rfl ?_
      exact v_ret (v := some (.ref rs0)) 19 rfl (Nat.zero_le _) (Nat.zero_le _) trivial rfl h
  · have h := h.2 q1
    refine v_iconst 10 rfl ?_
    refine v_goto 11 rfl (tgt := 29) rfl ?_
    refine v_putI 17 rfl fl11_25_10 (al 1 rfl hn) (wk1 dy) (by decide) rfl (wc1_3 dy) (by decide) ?_
    refine v_aload_n 18 3 rfl rfl rfl ?_
    exact v_ret (v := some (.ref rs0)) 19 rfl (Nat.zero_le _) (Nat.zero_le _) trivial rfl h
theorem wX11_rodGiven {d n : Nat} {dy : Nat → Shp} {g : Hp} {P : Pst} {x1 : Int} (hn : 100 ≤ n) (h : Runs miX11_partAt d [.ref 1, I_ x1] n (W0 dy) g (fun v n' S' g' => V miX11_rodGiven (d + 1) 5 [(0, .ref 1), (1, I_ x1)] (v.toList ++ []) n' S' g' 0 0 P)) : Runs miX11_rodGiven (d + 1) [.ref 1, I_ x1] n (W0 dy) g P := Runs.of rfl rfl deX11_rodGiven (Nat.le_of_ble_eq_true rfl) (bX11_rodGiven_0 hn h)
theorem lv11_163_topGiven_10 : LkV miX11_topGiven miX11_partAt 163 1 10 := ⟨⟨⟨tbG_in (List.mem_append_right _ (List.mem_of_getElem? (i := 600) (by decide +kernel))) rfl, tbG_in (List.mem_append_right _ (List.mem_of_getElem? (i := 1) (by decide +kernel))) rfl, tbG_in (List.mem_append_right _ (List.mem_of_getElem? (i := 597) (by decide +kernel))) rfl⟩, ⟨by decide +kernel, by decide +kernel, by decide +kernel⟩, by decide⟩, tbG_in (List.mem_append_right _ (List.mem_of_getElem? (i := 599) (by decide +kernel))) rfl, RX11, TX11, 13, rfl, tbG_in (List.mem_append_left _ (List.mem_of_getElem? (i := 13) (by decide +kernel))) rfl⟩
set_option maxHeartbeats 8000000 in
set_option maxRecDepth 4000 in
theorem bX11_topGiven_0 {d n : Nat} {dy : Nat → Shp} {g : Hp} {P : Pst} {x1 : Int} (hn : 100 ≤ n) (h : Runs miX11_partAt d [.ref 1, I_ x1] n (W0 dy) g (fun v n' S' g' => V miX11_topGiven (d + 1) 5 [(0, .ref 1), (1, I_ x1)] (v.toList ++ []) n' S' g' 0 0 P)) : V miX11_topGiven (d + 1) 0 [(0, .ref 1), (1, I_ x1)] [] n (W0 dy) g 0 0 P := by
  refine v_aload_n 0 0 rfl rfl rfl ?_
  refine v_iload_n 1 1 rfl rfl rfl ?_
  refine v_callV (st := []) [I_ x1] 2 rfl lv11_163_topGiven_10 (al 1 rfl hn) (wk1 dy) (by decide) rfl (Nat.le_refl _) (Nat.le_refl _) ?_
  exact h
set_option maxHeartbeats 8000000 in
set_option maxRecDepth 4000 in
theorem bX11_topGiven_5 {d n : Nat} {dy : Nat → Shp} {g : Hp} {P : Pst} {x1 : Int} {rs0 : Nat} (hn : 100 ≤ n) (h : ((0 < rs0) → (Pt n (W0 dy) rs0) ∧ ((((g rs0 3).toNat) = 0) → P (some (.ref rs0)) n (W0 dy) (up2 g 1 3 0)) ∧ ((0 < ((g rs0 3).toNat)) → P (some (.ref 0)) n (W0 dy) (up2 g 1 3 8))) ∧ ((rs0 = 0) → P (some (.ref 0)) n (W0 dy) (up2 g 1 3 2))) : V miX11_topGiven (d + 1) 5 [(0, .ref 1), (1, I_ x1)] [.ref rs0] n (W0 dy) g 0 0 P := by
  refine v_astore_n 3 [1, 2, 0] rfl rfl (by decide) rfl ?_
  refine v_aload_n 4 0 rfl rfl rfl ?_
  refine v_aload_n 5 2 rfl rfl rfl ?_
  refine v_ifnonnull 6 rfl (tgt := 15) rfl (fun q1 => ?_) (fun q1 => ?_)
  · have h := h.1 q1
    refine v_aload_n 9 2 rfl rfl rfl ?_
    have c2 := h.1
    have h := h.2
    refine v_pR 10 rfl ⟨fl11_196_3.r, fl11_196_5.r, fl11_196_9.r⟩ c2 ⟨rfl, rfl, rfl⟩ (x := g rs0 3) rfl ?_
    refine v_ifnull 11 rfl (tgt := 27) rfl (fun q3 => ?_) (fun q3 => ?_)
    · have h := h.1 q3
      refine v_iconst 14 rfl ?_
      refine v_putI 15 rfl fl11_25_10 (al 1 rfl hn) (wk1 dy) (by decide) rfl (wc1_3 dy) (by decide) ?_
      refine v_aload_n 16 0 rfl rfl rfl ?_
      refine v_gI 17 rfl fl11_25_10.r (al 1 rfl hn) (wk1 dy) (by decide) rfl (wc1_3 dy) (x := 0) rfl ?_
      refine v_rng fun w4 => ?_
      have p5 : i3 (0) := rI w4 (q := 3) (al 1 rfl hn) (wk1 dy) rfl rfl
      refine v_if_ne 18 rfl (tgt := 42) rfl (by decide) (fun q6 => ?_) (fun q6 => ?_)
      · exact absurd q6 (by decide)
      · refine v_aload_n 19 2 rfl rfl rfl ?_
        refine v_goto 20 rfl (tgt := 43) rfl ?_
        exact v_ret (v := some (.ref rs0)) 22 rfl (Nat.zero_le _) (Nat.zero_le _) trivial rfl h
    · have h := h.2 q3
      refine v_bipush 12 rfl (by decide) ?_
      refine v_goto 13 rfl (tgt := 28) rfl ?_
      refine v_putI 15 rfl fl11_25_10 (al 1 rfl hn) (wk1 dy) (by decide) rfl (wc1_3 dy) (by decide) ?_
      refine v_aload_n 16 0 rfl rfl rfl ?_
      refine v_gI 17 rfl fl11_25_10.r (al 1 rfl hn) (wk1 dy) (by decide) rfl (wc1_3 dy) (x := 8) rfl ?_
      refine v_rng fun w7 => ?_
      have p8 : i3 (8) := rI w7 (q := 3) (al 1 rfl hn) (wk1 dy) rfl rfl
      refine v_if_ne 18 rfl (tgt := 42) rfl (by decide) (fun q9 => ?_) (fun q9 => ?_)
      · refine v_null 21 rfl ?_
        exact v_ret (v := some (.ref 0)) 22 rfl (Nat.zero_le _) (Nat.zero_le _) trivial rfl h
      · exact absurd q9 (by decide)
  · have h := h.2 q1
    refine v_iconst 7 rfl ?_
    refine v_goto 8 rfl (tgt := 28) rfl ?_
    refine v_putI 15 rfl fl11_25_10 (al 1 rfl hn) (wk1 dy) (by decide) rfl (wc1_3 dy) (by decide) ?_
    refine v_aload_n 16 0 rfl rfl rfl ?_
    refine v_gI 17 rfl fl11_25_10.r (al 1 rfl hn) (wk1 dy) (by decide) rfl (wc1_3 dy) (x := 2) rfl ?_
    refine v_rng fun w10 => ?_
    have p11 : i3 (2) := rI w10 (q := 3) (al 1 rfl hn) (wk1 dy) rfl rfl
    refine v_if_ne 18 rfl (tgt := 42) rfl (by decide) (fun q12 => ?_) (fun q12 => ?_)
    · refine v_null 21 rfl ?_
      exact v_ret (v := some (.ref 0)) 22 rfl (Nat.zero_le _) (Nat.zero_le _) trivial rfl h
    · exact absurd q12 (by decide)
theorem wX11_topGiven {d n : Nat} {dy : Nat → Shp} {g : Hp} {P : Pst} {x1 : Int} (hn : 100 ≤ n) (h : Runs miX11_partAt d [.ref 1, I_ x1] n (W0 dy) g (fun v n' S' g' => V miX11_topGiven (d + 1) 5 [(0, .ref 1), (1, I_ x1)] (v.toList ++ []) n' S' g' 0 0 P)) : Runs miX11_topGiven (d + 1) [.ref 1, I_ x1] n (W0 dy) g P := Runs.of rfl rfl deX11_topGiven (Nat.le_of_ble_eq_true rfl) (bX11_topGiven_0 hn h)
theorem lv11_163_wholeTopStatus_10 : LkV miX11_wholeTopStatus miX11_partAt 163 1 10 := ⟨⟨⟨tbG_in (List.mem_append_right _ (List.mem_of_getElem? (i := 600) (by decide +kernel))) rfl, tbG_in (List.mem_append_right _ (List.mem_of_getElem? (i := 1) (by decide +kernel))) rfl, tbG_in (List.mem_append_right _ (List.mem_of_getElem? (i := 597) (by decide +kernel))) rfl⟩, ⟨by decide +kernel, by decide +kernel, by decide +kernel⟩, by decide⟩, tbG_in (List.mem_append_right _ (List.mem_of_getElem? (i := 599) (by decide +kernel))) rfl, RX11, TX11, 13, rfl, tbG_in (List.mem_append_left _ (List.mem_of_getElem? (i := 13) (by decide +kernel))) rfl⟩
theorem lv11_227_wholeTopStatus_1 : LkV miX11_wholeTopStatus miX1_gather 227 1 1 := ⟨⟨⟨tbG_in (List.mem_append_right _ (List.mem_of_getElem? (i := 682) (by decide +kernel))) rfl, tbG_in (List.mem_append_right _ (List.mem_of_getElem? (i := 2) (by decide +kernel))) rfl, tbG_in (List.mem_append_right _ (List.mem_of_getElem? (i := 679) (by decide +kernel))) rfl⟩, ⟨by decide +kernel, by decide +kernel, by decide +kernel⟩, by decide⟩, tbG_in (List.mem_append_right _ (List.mem_of_getElem? (i := 680) (by decide +kernel))) rfl, RX1, TX1, 3, rfl, tbG_in (List.mem_append_right _ (List.mem_of_getElem? (i := 681) (by decide +kernel))) rfl⟩
theorem lv11_363_wholeTopStatus_1 : LkV miX11_wholeTopStatus miX1_hasWholeArms 363 0 1 := ⟨⟨⟨tbG_in (List.mem_append_right _ (List.mem_of_getElem? (i := 819) (by decide +kernel))) rfl, tbG_in (List.mem_append_right _ (List.mem_of_getElem? (i := 2) (by decide +kernel))) rfl, tbG_in (List.mem_append_right _ (List.mem_of_getElem? (i := 816) (by decide +kernel))) rfl⟩, ⟨by decide +kernel, by decide +kernel, by decide +kernel⟩, by decide⟩, tbG_in (List.mem_append_right _ (List.mem_of_getElem? (i := 817) (by decide +kernel))) rfl, RX1, TX1, 3, rfl, tbG_in (List.mem_append_right _ (List.mem_of_getElem? (i := 818) (by decide +kernel))) rfl⟩
set_option maxHeartbeats 8000000 in
set_option maxRecDepth 4000 in
theorem bX11_wholeTopStatus_0 {d n : Nat} {dy : Nat → Shp} {g : Hp} {P : Pst} {x1 : Int} (hn : 100 ≤ n) (h : Runs miX11_partAt d [.ref 1, I_ x1] n (W0 dy) g (fun v n' S' g' => V miX11_wholeTopStatus (d + 1) 5 [(0, .ref 1), (1, I_ x1)] (v.toList ++ []) n' S' g' 0 0 P)) : V miX11_wholeTopStatus (d + 1) 0 [(0, .ref 1), (1, I_ x1)] [] n (W0 dy) g 0 0 P := by
  refine v_aload_n 0 0 rfl rfl rfl ?_
  refine v_iload_n 1 1 rfl rfl rfl ?_
  refine v_callV (st := []) [I_ x1] 2 rfl lv11_163_wholeTopStatus_10 (al 1 rfl hn) (wk1 dy) (by decide) rfl (Nat.le_refl _) (Nat.le_refl _) ?_
  exact h
set_option maxHeartbeats 8000000 in
set_option maxRecDepth 4000 in
theorem bX11_wholeTopStatus_5 {d n : Nat} {dy : Nat → Shp} {g : Hp} {P : Pst} {x1 : Int} {rs0 : Nat} (hn : 100 ≤ n) (h : ((0 < rs0) → (Pt n (W0 dy) rs0) ∧ ((((g rs0 3).toNat) = 0) → Runs miX1_gather d [.ref 4, .ref rs0] n (W0 dy) g (fun v n' S' g' => V miX11_wholeTopStatus (d + 1) 30 [(0, .ref 1), (1, I_ x1), (2, .ref rs0)] (v.toList ++ []) n' S' g' 0 0 P)) ∧ ((0 < ((g rs0 3).toNat)) → P (some (I_ 8)) n (W0 dy) g)) ∧ ((rs0 = 0) → P (some (I_ 2)) n (W0 dy) g)) : V miX11_wholeTopStatus (d + 1) 5 [(0, .ref 1), (1, I_ x1)] [.ref rs0] n (W0 dy) g 0 0 P := by
  refine v_astore_n 3 [1, 2, 0] rfl rfl (by decide) rfl ?_
  refine v_aload_n 4 2 rfl rfl rfl ?_
  refine v_ifnonnull 5 rfl (tgt := 12) rfl (fun q1 => ?_) (fun q1 => ?_)
  · have h := h.1 q1
    refine v_aload_n 8 2 rfl rfl rfl ?_
    have c2 := h.1
    have h := h.2
    refine v_pR 9 rfl ⟨fl11_196_3.r, fl11_196_5.r, fl11_196_9.r⟩ c2 ⟨rfl, rfl, rfl⟩ (x := g rs0 3) rfl ?_
    refine v_ifnull 10 rfl (tgt := 22) rfl (fun q3 => ?_) (fun q3 => ?_)
    · have h := h.1 q3
      refine v_aload_n 13 0 rfl rfl rfl ?_
      refine v_gK 14 rfl fl11_31_10.r (al 1 rfl hn) (wk1 dy) (by decide) rfl (r := 4) (wc1_4 dy) ?_
      refine v_aload_n 15 2 rfl rfl rfl ?_
      refine v_callV (st := []) [.ref rs0] 16 rfl lv11_227_wholeTopStatus_1 (al 4 rfl hn) (wk4 dy) (by decide) rfl (Nat.le_refl _) (Nat.le_refl _) ?_
      exact h
    · have h := h.2 q3
      refine v_bipush 11 rfl (by decide) ?_
      exact v_ret (v := some (I_ 8)) 12 rfl (Nat.zero_le _) (Nat.zero_le _) trivial rfl h
  · have h := h.2 q1
    refine v_iconst 6 rfl ?_
    exact v_ret (v := some (I_ 2)) 7 rfl (Nat.zero_le _) (Nat.zero_le _) trivial rfl h
set_option maxHeartbeats 8000000 in
set_option maxRecDepth 4000 in
theorem bX11_wholeTopStatus_30 {d n : Nat} {dy : Nat → Shp} {g : Hp} {P : Pst} {x1 : Int} {r2 : Nat} (hn : 100 ≤ n) (h : Runs miX1_hasWholeArms d [.ref 4] n (W0 dy) g (fun v n' S' g' => V miX11_wholeTopStatus (d + 1) 37 [(0, .ref 1), (1, I_ x1), (2, .ref r2)] (v.toList ++ []) n' S' g' 0 0 P)) : V miX11_wholeTopStatus (d + 1) 30 [(0, .ref 1), (1, I_ x1), (2, .ref r2)] [] n (W0 dy) g 0 0 P := by
  refine v_aload_n 17 0 rfl rfl rfl ?_
  refine v_gK 18 rfl fl11_31_10.r (al 1 rfl hn) (wk1 dy) (by decide) rfl (r := 4) (wc1_4 dy) ?_
  refine v_callV (st := []) [] 19 rfl lv11_363_wholeTopStatus_1 (al 4 rfl hn) (wk4 dy) (by decide) rfl (Nat.le_refl _) (Nat.le_refl _) ?_
  exact h
set_option maxHeartbeats 8000000 in
set_option maxRecDepth 4000 in
theorem bX11_wholeTopStatus_37 {d n : Nat} {dy : Nat → Shp} {g : Hp} {P : Pst} {x1 : Int} {r2 : Nat} {xs0 : Int} (hn : 100 ≤ n) (h : (i3 xs0) ∧ ((xs0 = 0) → P (some (I_ 9)) n (W0 dy) g) ∧ ((xs0 ≠ 0) → P (some (I_ 0)) n (W0 dy) g)) : V miX11_wholeTopStatus (d + 1) 37 [(0, .ref 1), (1, I_ x1), (2, .ref r2)] [I_ xs0] n (W0 dy) g 0 0 P := by
  have c1 := h.1
  have h := h.2
  refine v_if_eq 20 rfl (tgt := 44) rfl c1 (fun q2 => ?_) (fun q2 => ?_)
  · have h := h.1 q2
    refine v_bipush 23 rfl (by decide) ?_
    exact v_ret (v := some (I_ 9)) 24 rfl (Nat.zero_le _) (Nat.zero_le _) trivial rfl h
  · have h := h.2 q2
    refine v_iconst 21 rfl ?_
    refine v_goto 22 rfl (tgt := 46) rfl ?_
    exact v_ret (v := some (I_ 0)) 24 rfl (Nat.zero_le _) (Nat.zero_le _) trivial rfl h
theorem wX11_wholeTopStatus {d n : Nat} {dy : Nat → Shp} {g : Hp} {P : Pst} {x1 : Int} (hn : 100 ≤ n) (h : Runs miX11_partAt d [.ref 1, I_ x1] n (W0 dy) g (fun v n' S' g' => V miX11_wholeTopStatus (d + 1) 5 [(0, .ref 1), (1, I_ x1)] (v.toList ++ []) n' S' g' 0 0 P)) : Runs miX11_wholeTopStatus (d + 1) [.ref 1, I_ x1] n (W0 dy) g P := Runs.of rfl rfl deX11_wholeTopStatus (Nat.le_of_ble_eq_true rfl) (bX11_wholeTopStatus_0 hn h)
set_option maxHeartbeats 8000000 in
set_option maxRecDepth 4000 in
theorem bX11_isThread_0 {d n : Nat} {dy : Nat → Shp} {g : Hp} {P : Pst} {x0 : Int} (hn : 100 ≤ n) (h : (i3 x0) ∧ ((x0 < 1) → P (some (I_ 0)) n (W0 dy) g) ∧ ((1 ≤ x0) → ((1000 < x0) → P (some (I_ 0)) n (W0 dy) g) ∧ ((x0 ≤ 1000) → P (some (I_ 1)) n (W0 dy) g))) : V miX11_isThread d 0 [(0, I_ x0)] [] n (W0 dy) g 0 0 P := by
  refine v_iload_n 0 0 rfl rfl rfl ?_
  refine v_iconst 1 rfl ?_
  have c1 := h.1
  have h := h.2
  refine v_icmp_lt 2 rfl (tgt := 16) rfl c1 (by decide) (fun q2 => ?_) (fun q2 => ?_)
  · have h := h.1 q2
    refine v_iconst 8 rfl ?_
    exact v_ret (v := some (I_ 0)) 9 rfl (Nat.zero_le _) (Nat.zero_le _) (Or.inl rfl) rfl h
  · have h := h.2 q2
    refine v_iload_n 3 0 rfl rfl rfl ?_
    refine v_sipush 4 rfl (by decide) ?_
    refine v_icmp_gt 5 rfl (tgt := 16) rfl c1 (by decide) (fun q3 => ?_) (fun q3 => ?_)
    · have h := h.1 q3
      refine v_iconst 8 rfl ?_
      exact v_ret (v := some (I_ 0)) 9 rfl (Nat.zero_le _) (Nat.zero_le _) (Or.inl rfl) rfl h
    · have h := h.2 q3
      refine v_iconst 6 rfl ?_
      refine v_goto 7 rfl (tgt := 17) rfl ?_
      exact v_ret (v := some (I_ 1)) 9 rfl (Nat.zero_le _) (Nat.zero_le _) (Or.inr rfl) rfl h
theorem wX11_isThread {d n : Nat} {dy : Nat → Shp} {g : Hp} {P : Pst} {x0 : Int} (hn : 100 ≤ n) (h : (i3 x0) ∧ ((x0 < 1) → P (some (I_ 0)) n (W0 dy) g) ∧ ((1 ≤ x0) → ((1000 < x0) → P (some (I_ 0)) n (W0 dy) g) ∧ ((x0 ≤ 1000) → P (some (I_ 1)) n (W0 dy) g))) : Runs miX11_isThread d [I_ x0] n (W0 dy) g P := Runs.of rfl rfl deX11_isThread (Nat.le_of_ble_eq_true rfl) (bX11_isThread_0 hn h)
theorem fl11_372_3 : FR RX11 372 3 0 := ⟨RX4, TX4, 14, "MobileMaker$Part", rfl, rfl, by decide, kf3, tbG_in (List.mem_append_right _ (List.mem_of_getElem? (i := 348) (by decide +kernel))) rfl, Or.inl rfl⟩
theorem fl11_372_5 : FR RX11 372 5 0 := ⟨RX6, TX6, 16, "MobileMaker$Part", rfl, rfl, by decide, kf5, tbG_in (List.mem_append_right _ (List.mem_of_getElem? (i := 348) (by decide +kernel))) rfl, Or.inl rfl⟩
theorem fl11_372_9 : FR RX11 372 9 0 := ⟨RX10, TX10, 10, "MobileMaker$Part", rfl, rfl, by decide, kf9, tbG_in (List.mem_append_right _ (List.mem_of_getElem? (i := 348) (by decide +kernel))) rfl, Or.inl rfl⟩
theorem lv11_135_added_10 : LkV miX11_added miX11_none 135 1 10 := ⟨⟨⟨tbG_in (List.mem_append_right _ (List.mem_of_getElem? (i := 336) (by decide +kernel))) rfl, tbG_in (List.mem_append_right _ (List.mem_of_getElem? (i := 1) (by decide +kernel))) rfl, tbG_in (List.mem_append_right _ (List.mem_of_getElem? (i := 333) (by decide +kernel))) rfl⟩, ⟨by decide +kernel, by decide +kernel, by decide +kernel⟩, by decide⟩, tbG_in (List.mem_append_right _ (List.mem_of_getElem? (i := 335) (by decide +kernel))) rfl, RX11, TX11, 13, rfl, tbG_in (List.mem_append_left _ (List.mem_of_getElem? (i := 4) (by decide +kernel))) rfl⟩
set_option maxHeartbeats 8000000 in
set_option maxRecDepth 4000 in
theorem bX11_added_0 {d n : Nat} {dy : Nat → Shp} {g : Hp} {P : Pst} {r1 : Nat} (hn : 100 ≤ n) (h : (((g 1 2) < 60) → (0 ≤ g 1 2 ∧ g 1 2 < 60) ∧ (Pt n (W0 dy) r1) ∧ (i3 ((g 1 2) + 1)) ∧ P (some (I_ ((up2 g 3 ((g 1 2).toNat) (((r1 : Nat) : Int))) r1 0))) n (W0 dy) (up2 (up2 (up2 g 3 ((g 1 2).toNat) (((r1 : Nat) : Int))) 1 2 ((g 1 2) + 1)) 1 3 0)) ∧ ((60 ≤ (g 1 2)) → Runs miX11_none d [.ref 1, I_ 10] n (W0 dy) g (fun v n' S' g' => V miX11_added (d + 1) 18 [(0, .ref 1), (1, .ref r1)] (v.toList ++ []) n' S' g' 0 0 P))) : V miX11_added (d + 1) 0 [(0, .ref 1), (1, .ref r1)] [] n (W0 dy) g 0 0 P := by
  refine v_aload_n 0 0 rfl rfl rfl ?_
  refine v_gI 1 rfl fl11_21_10.r (al 1 rfl hn) (wk1 dy) (by decide) rfl (wc1_2 dy) (x := g 1 2) rfl ?_
  refine v_rng fun w1 => ?_
  have p2 : i3 (g 1 2) := rI w1 (q := 2) (al 1 rfl hn) (wk1 dy) rfl rfl
  refine v_aload_n 2 0 rfl rfl rfl ?_
  refine v_gK 3 rfl fl11_17_10.r (al 1 rfl hn) (wk1 dy) (by decide) rfl (r := 3) (wc1_1 dy) ?_
  refine v_alen (N := 60) (t := 16) 4 rfl (al 3 rfl hn) (wk3 dy) (by decide) (fun _ => rfl) (wn3 dy) ?_
  refine v_icmp_lt 5 rfl (tgt := 19) rfl p2 (by decide) (fun q3 => ?_) (fun q3 => ?_)
  · have h := h.1 q3
    refine v_aload_n 10 0 rfl rfl rfl ?_
    refine v_gK 11 rfl fl11_17_10.r (al 1 rfl hn) (wk1 dy) (by decide) rfl (r := 3) (wc1_1 dy) ?_
    refine v_aload_n 12 0 rfl rfl rfl ?_
    refine v_gI 13 rfl fl11_21_10.r (al 1 rfl hn) (wk1 dy) (by decide) rfl (wc1_2 dy) (x := g 1 2) rfl ?_
    refine v_rng fun w4 => ?_
    have p5 : i3 (g 1 2) := rI w4 (q := 2) (al 1 rfl hn) (wk1 dy) rfl rfl
    refine v_aload_n 14 1 rfl rfl rfl ?_
    have c6 := h.1
    have h := h.2
    have c7 := h.1
    have h := h.2
    refine v_pastP (N := 60) 15 rfl (al 3 rfl hn) (wk3 dy) (wn3 dy) (by decide) c6 c7 ?_
    refine v_aload_n 16 0 rfl rfl rfl ?_
    refine v_dup 17 rfl (by intro h; cases h) ?_
    refine v_gI 18 rfl fl11_21_10.r (al 1 rfl hn) (wk1 dy) (by decide) rfl (wc1_2 dy) (x := g 1 2) rfl ?_
    refine v_rng fun w8 => ?_
    have p9 : i3 (g 1 2) := rI w8 (q := 2) (al 1 rfl hn) (wk1 dy) rfl rfl
    refine v_iconst 19 rfl ?_
    refine v_iadd 20 rfl ?_
    have c10 := h.1
    have h := h.2
    refine v_putI 21 rfl fl11_21_10 (al 1 rfl hn) (wk1 dy) (by decide) rfl (wc1_2 dy) c10 ?_
    refine v_aload_n 22 0 rfl rfl rfl ?_
    refine v_iconst 23 rfl ?_
    refine v_putI 24 rfl fl11_25_10 (al 1 rfl hn) (wk1 dy) (by decide) rfl (wc1_3 dy) (by decide) ?_
    refine v_aload_n 25 1 rfl rfl rfl ?_
    refine v_pI 26 rfl ⟨fl11_372_3, fl11_372_5, fl11_372_9⟩ c7 ⟨rfl, rfl, rfl⟩ (x := (up2 g 3 ((g 1 2).toNat) (((r1 : Nat) : Int))) r1 0) ((up2_q (by decide)).trans (up2_q (by decide))) ?_
    refine v_rng fun w11 => ?_
    have p12 : i3 ((up2 g 3 ((g 1 2).toNat) (((r1 : Nat) : Int))) r1 0) := rPI w11 (q := 0) c7 rfl rfl rfl ((up2_q (by decide)).trans (up2_q (by decide)))
    exact v_ret (v := some (I_ ((up2 g 3 ((g 1 2).toNat) (((r1 : Nat) : Int))) r1 0))) 27 rfl (Nat.zero_le _) (Nat.zero_le _) trivial rfl h
  · have h := h.2 q3
    refine v_aload_n 6 0 rfl rfl rfl ?_
    refine v_bipush 7 rfl (by decide) ?_
    refine v_callV (st := []) [I_ 10] 8 rfl lv11_135_added_10 (al 1 rfl hn) (wk1 dy) (by decide) rfl (Nat.le_refl _) (Nat.le_refl _) ?_
    exact h
set_option maxHeartbeats 8000000 in
set_option maxRecDepth 4000 in
theorem bX11_added_18 {d n : Nat} {dy : Nat → Shp} {g : Hp} {P : Pst} {r1 : Nat} {xs0 : Int} (hn : 100 ≤ n) (h : P (some (I_ xs0)) n (W0 dy) g) : V miX11_added (d + 1) 18 [(0, .ref 1), (1, .ref r1)] [I_ xs0] n (W0 dy) g 0 0 P := by
  exact v_ret (v := some (I_ xs0)) 9 rfl (Nat.zero_le _) (Nat.zero_le _) trivial rfl h
theorem wX11_added {d n : Nat} {dy : Nat → Shp} {g : Hp} {P : Pst} {r1 : Nat} (hn : 100 ≤ n) (h : (((g 1 2) < 60) → (0 ≤ g 1 2 ∧ g 1 2 < 60) ∧ (Pt n (W0 dy) r1) ∧ (i3 ((g 1 2) + 1)) ∧ P (some (I_ ((up2 g 3 ((g 1 2).toNat) (((r1 : Nat) : Int))) r1 0))) n (W0 dy) (up2 (up2 (up2 g 3 ((g 1 2).toNat) (((r1 : Nat) : Int))) 1 2 ((g 1 2) + 1)) 1 3 0)) ∧ ((60 ≤ (g 1 2)) → Runs miX11_none d [.ref 1, I_ 10] n (W0 dy) g (fun v n' S' g' => V miX11_added (d + 1) 18 [(0, .ref 1), (1, .ref r1)] (v.toList ++ []) n' S' g' 0 0 P))) : Runs miX11_added (d + 1) [.ref 1, .ref r1] n (W0 dy) g P := Runs.of rfl rfl deX11_added (Nat.le_of_ble_eq_true rfl) (bX11_added_0 hn h)
theorem fl11_375_3 : FR RX11 375 3 2 := ⟨RX4, TX4, 14, "MobileMaker$Part", rfl, rfl, by decide, kf3, tbG_in (List.mem_append_right _ (List.mem_of_getElem? (i := 362) (by decide +kernel))) rfl, Or.inl rfl⟩
theorem fl11_375_5 : FR RX11 375 5 2 := ⟨RX6, TX6, 16, "MobileMaker$Part", rfl, rfl, by decide, kf5, tbG_in (List.mem_append_right _ (List.mem_of_getElem? (i := 362) (by decide +kernel))) rfl, Or.inl rfl⟩
theorem fl11_375_9 : FR RX11 375 9 2 := ⟨RX10, TX10, 10, "MobileMaker$Part", rfl, rfl, by decide, kf9, tbG_in (List.mem_append_right _ (List.mem_of_getElem? (i := 362) (by decide +kernel))) rfl, Or.inl rfl⟩
theorem fl11_378_5 : FR RX11 378 5 0 := ⟨RX6, TX6, 16, "MobileMaker$Rod", rfl, rfl, by decide, kf5, tbG_in (List.mem_append_right _ (List.mem_of_getElem? (i := 349) (by decide +kernel))) rfl, Or.inr (tbG_in (List.mem_append_right _ (List.mem_of_getElem? (i := 350) (by decide +kernel))) rfl)⟩
theorem fl11_379_3 : FL RX11 379 3 4 false .int := ⟨RX4, TX4, 14, "MobileMaker$Part", rfl, rfl, by decide, kf3, tbG_in (List.mem_append_right _ (List.mem_of_getElem? (i := 376) (by decide +kernel))) rfl, Or.inl rfl, rfl, by decide +kernel, ⟨tyX4, tyX4_ok⟩, nmX4, fun h => by cases h⟩
theorem fl11_379_5 : FL RX11 379 5 4 false .int := ⟨RX6, TX6, 16, "MobileMaker$Part", rfl, rfl, by decide, kf5, tbG_in (List.mem_append_right _ (List.mem_of_getElem? (i := 376) (by decide +kernel))) rfl, Or.inl rfl, rfl, by decide +kernel, ⟨tyX6, tyX6_ok⟩, nmX6, fun h => by cases h⟩
theorem fl11_379_9 : FL RX11 379 9 4 false .int := ⟨RX10, TX10, 10, "MobileMaker$Part", rfl, rfl, by decide, kf9, tbG_in (List.mem_append_right _ (List.mem_of_getElem? (i := 376) (by decide +kernel))) rfl, Or.inl rfl, rfl, by decide +kernel, ⟨tyX10, tyX10_ok⟩, nmX10, fun h => by cases h⟩
theorem ls11_280_partTold : LkS miX11_partTold miX11_topOf 280 1 := ⟨⟨⟨tbG_in (List.mem_append_right _ (List.mem_of_getElem? (i := 609) (by decide +kernel))) rfl, tbG_in (List.mem_append_right _ (List.mem_of_getElem? (i := 1) (by decide +kernel))) rfl, tbG_in (List.mem_append_right _ (List.mem_of_getElem? (i := 607) (by decide +kernel))) rfl⟩, ⟨by decide +kernel, by decide +kernel, by decide +kernel⟩, by decide⟩, tbG_in (List.mem_append_right _ (List.mem_of_getElem? (i := 608) (by decide +kernel))) rfl⟩
theorem ls11_382_partTold : LkS miX11_partTold miX11_heightOf 382 1 := ⟨⟨⟨tbG_in (List.mem_append_right _ (List.mem_of_getElem? (i := 606) (by decide +kernel))) rfl, tbG_in (List.mem_append_right _ (List.mem_of_getElem? (i := 1) (by decide +kernel))) rfl, tbG_in (List.mem_append_right _ (List.mem_of_getElem? (i := 604) (by decide +kernel))) rfl⟩, ⟨by decide +kernel, by decide +kernel, by decide +kernel⟩, by decide⟩, tbG_in (List.mem_append_right _ (List.mem_of_getElem? (i := 605) (by decide +kernel))) rfl⟩
set_option maxHeartbeats 8000000 in
set_option maxRecDepth 4000 in
theorem bX11_partTold_0 {d n : Nat} {dy : Nat → Shp} {g : Hp} {P : Pst} {r0 : Nat} {x1 : Int} (hn : 100 ≤ n) (h : (i3 x1) ∧ ((x1 < 0 ∨ 5 < x1) → Runs miX11_topOf d [.ref r0] n (W0 dy) g (fun v n' S' g' => V miX11_partTold (d + 1) 99 [(0, .ref r0), (1, I_ x1)] (v.toList ++ []) n' S' g' 0 0 P)) ∧ (x1 = 0 → (Pt n (W0 dy) r0) ∧ P (some (I_ (g r0 1))) n (W0 dy) g) ∧ (x1 = 1 → (Pt n (W0 dy) r0) ∧ P (some (I_ (g r0 2))) n (W0 dy) g) ∧ (x1 = 2 → (Pt n (W0 dy) r0) ∧ ((0 < ((g r0 3).toNat)) → (Ob n (W0 dy) ((g r0 3).toNat) 5) ∧ P (some (I_ (g ((g r0 3).toNat) 0))) n (W0 dy) g) ∧ ((((g r0 3).toNat) = 0) → P (some (I_ ((-1)))) n (W0 dy) g)) ∧ (x1 = 3 → (Pt n (W0 dy) r0) ∧ ((0 < ((g r0 3).toNat)) → P (some (I_ (g r0 4))) n (W0 dy) g) ∧ ((((g r0 3).toNat) = 0) → P (some (I_ ((-1)))) n (W0 dy) g)) ∧ (x1 = 4 → (Pt n (W0 dy) r0) ∧ P (some (I_ (g r0 5))) n (W0 dy) g) ∧ (x1 = 5 → Runs miX11_heightOf d [.ref r0] n (W0 dy) g (fun v n' S' g' => V miX11_partTold (d + 1) 94 [(0, .ref r0), (1, I_ x1)] (v.toList ++ []) n' S' g' 0 0 P))) : V miX11_partTold (d + 1) 0 [(0, .ref r0), (1, I_ x1)] [] n (W0 dy) g 0 0 P := by
  refine v_iload_n 0 1 rfl rfl rfl ?_
  have c1 := h.1
  have h := h.2
  by_cases q20 : x1 < 0 ∨ 5 < x1
  · have h := h.1 q20
    refine v_tswOut 1 rfl c1 q20 (tgt := 95) rfl ?_
    refine v_aload_n 31 0 rfl rfl rfl ?_
    refine v_callS (st := []) [.ref r0] 32 rfl ls11_280_partTold rfl (Nat.lt_of_lt_of_le (by decide) hn) (Nat.le_refl _) (Nat.le_refl _) ?_
    exact h
  by_cases q20_0 : x1 = 0
  · have h := h.2.1 q20_0
    refine v_tswIn 1 rfl c1 (by omega) (by omega) (off := 39) (tgt := 40) (by rw [q20_0]; rfl) rfl ?_
    refine v_aload_n 2 0 rfl rfl rfl ?_
    have c2 := h.1
    have h := h.2
    refine v_pI 3 rfl ⟨fl11_279_3, fl11_279_5, fl11_279_9⟩ c2 ⟨rfl, rfl, rfl⟩ (x := g r0 1) rfl ?_
    refine v_rng fun w3 => ?_
    have p4 : i3 (g r0 1) := rPI w3 (q := 1) c2 rfl rfl rfl rfl
    exact v_ret (v := some (I_ (g r0 1))) 4 rfl (Nat.zero_le _) (Nat.zero_le _) trivial rfl h
  by_cases q20_1 : x1 = 1
  · have h := h.2.2.1 q20_1
    refine v_tswIn 1 rfl c1 (by omega) (by omega) (off := 44) (tgt := 45) (by rw [q20_1]; rfl) rfl ?_
    refine v_aload_n 5 0 rfl rfl rfl ?_
    have c5 := h.1
    have h := h.2
    refine v_pI 6 rfl ⟨fl11_375_3, fl11_375_5, fl11_375_9⟩ c5 ⟨rfl, rfl, rfl⟩ (x := g r0 2) rfl ?_
    refine v_rng fun w6 => ?_
    have p7 : i3 (g r0 2) := rPI w6 (q := 2) c5 rfl rfl rfl rfl
    exact v_ret (v := some (I_ (g r0 2))) 7 rfl (Nat.zero_le _) (Nat.zero_le _) trivial rfl h
  by_cases q20_2 : x1 = 2
  · have h := h.2.2.2.1 q20_2
    refine v_tswIn 1 rfl c1 (by omega) (by omega) (off := 49) (tgt := 50) (by rw [q20_2]; rfl) rfl ?_
    refine v_aload_n 8 0 rfl rfl rfl ?_
    have c8 := h.1
    have h := h.2
    refine v_pR 9 rfl ⟨fl11_196_3.r, fl11_196_5.r, fl11_196_9.r⟩ c8 ⟨rfl, rfl, rfl⟩ (x := g r0 3) rfl ?_
    refine v_ifnonnull 10 rfl (tgt := 61) rfl (fun q9 => ?_) (fun q9 => ?_)
    · have h := h.1 q9
      refine v_aload_n 13 0 rfl rfl rfl ?_
      refine v_pR 14 rfl ⟨fl11_196_3.r, fl11_196_5.r, fl11_196_9.r⟩ c8 ⟨rfl, rfl, rfl⟩ (x := g r0 3) rfl ?_
      have c10 := h.1
      have h := h.2
      refine v_gI 15 rfl fl11_378_5 c10.1 c10.2.1 (by decide) rfl (c10.2.2 0) (x := g ((g r0 3).toNat) 0) rfl ?_
      refine v_rng fun w11 => ?_
      have p12 : i3 (g ((g r0 3).toNat) 0) := rI w11 (q := 0) c10.1 c10.2.1 rfl rfl
      exact v_ret (v := some (I_ (g ((g r0 3).toNat) 0))) 16 rfl (Nat.zero_le _) (Nat.zero_le _) trivial rfl h
    · have h := h.2 q9
      refine v_iconst 11 rfl ?_
      refine v_goto 12 rfl (tgt := 68) rfl ?_
      exact v_ret (v := some (I_ ((-1)))) 16 rfl (Nat.zero_le _) (Nat.zero_le _) trivial rfl h
  by_cases q20_3 : x1 = 3
  · have h := h.2.2.2.2.1 q20_3
    refine v_tswIn 1 rfl c1 (by omega) (by omega) (off := 68) (tgt := 69) (by rw [q20_3]; rfl) rfl ?_
    refine v_aload_n 17 0 rfl rfl rfl ?_
    have c13 := h.1
    have h := h.2
    refine v_pR 18 rfl ⟨fl11_196_3.r, fl11_196_5.r, fl11_196_9.r⟩ c13 ⟨rfl, rfl, rfl⟩ (x := g r0 3) rfl ?_
    refine v_ifnonnull 19 rfl (tgt := 80) rfl (fun q14 => ?_) (fun q14 => ?_)
    · have h := h.1 q14
      refine v_aload_n 22 0 rfl rfl rfl ?_
      refine v_pI 23 rfl ⟨fl11_379_3.r, fl11_379_5.r, fl11_379_9.r⟩ c13 ⟨rfl, rfl, rfl⟩ (x := g r0 4) rfl ?_
      refine v_rng fun w15 => ?_
      have p16 : i3 (g r0 4) := rPI w15 (q := 4) c13 rfl rfl rfl rfl
      exact v_ret (v := some (I_ (g r0 4))) 24 rfl (Nat.zero_le _) (Nat.zero_le _) trivial rfl h
    · have h := h.2 q14
      refine v_iconst 20 rfl ?_
      refine v_goto 21 rfl (tgt := 84) rfl ?_
      exact v_ret (v := some (I_ ((-1)))) 24 rfl (Nat.zero_le _) (Nat.zero_le _) trivial rfl h
  by_cases q20_4 : x1 = 4
  · have h := h.2.2.2.2.2.1 q20_4
    refine v_tswIn 1 rfl c1 (by omega) (by omega) (off := 84) (tgt := 85) (by rw [q20_4]; rfl) rfl ?_
    refine v_aload_n 25 0 rfl rfl rfl ?_
    have c17 := h.1
    have h := h.2
    refine v_pI 26 rfl ⟨fl11_207_3.r, fl11_207_5.r, fl11_207_9.r⟩ c17 ⟨rfl, rfl, rfl⟩ (x := g r0 5) rfl ?_
    refine v_rng fun w18 => ?_
    have p19 : i3 (g r0 5) := rPI w18 (q := 5) c17 rfl rfl rfl rfl
    exact v_ret (v := some (I_ (g r0 5))) 27 rfl (Nat.zero_le _) (Nat.zero_le _) trivial rfl h
  by_cases q20_5 : x1 = 5
  · have h := h.2.2.2.2.2.2 q20_5
    refine v_tswIn 1 rfl c1 (by omega) (by omega) (off := 89) (tgt := 90) (by rw [q20_5]; rfl) rfl ?_
    refine v_aload_n 28 0 rfl rfl rfl ?_
    refine v_callS (st := []) [.ref r0] 29 rfl ls11_382_partTold rfl (Nat.lt_of_lt_of_le (by decide) hn) (Nat.le_refl _) (Nat.le_refl _) ?_
    exact h
  exfalso; omega
set_option maxHeartbeats 8000000 in
set_option maxRecDepth 4000 in
theorem bX11_partTold_94 {d n : Nat} {dy : Nat → Shp} {g : Hp} {P : Pst} {r0 : Nat} {x1 : Int} {xs0 : Int} (hn : 100 ≤ n) (h : P (some (I_ xs0)) n (W0 dy) g) : V miX11_partTold (d + 1) 94 [(0, .ref r0), (1, I_ x1)] [I_ xs0] n (W0 dy) g 0 0 P := by
  exact v_ret (v := some (I_ xs0)) 30 rfl (Nat.zero_le _) (Nat.zero_le _) trivial rfl h
set_option maxHeartbeats 8000000 in
set_option maxRecDepth 4000 in
theorem bX11_partTold_99 {d n : Nat} {dy : Nat → Shp} {g : Hp} {P : Pst} {r0 : Nat} {x1 : Int} {rs0 : Nat} (hn : 100 ≤ n) (h : (Pt n (W0 dy) rs0) ∧ P (some (I_ (g rs0 0))) n (W0 dy) g) : V miX11_partTold (d + 1) 99 [(0, .ref r0), (1, I_ x1)] [.ref rs0] n (W0 dy) g 0 0 P := by
  have c1 := h.1
  have h := h.2
  refine v_pI 33 rfl ⟨fl11_372_3, fl11_372_5, fl11_372_9⟩ c1 ⟨rfl, rfl, rfl⟩ (x := g rs0 0) rfl ?_
  refine v_rng fun w2 => ?_
  have p3 : i3 (g rs0 0) := rPI w2 (q := 0) c1 rfl rfl rfl rfl
  exact v_ret (v := some (I_ (g rs0 0))) 34 rfl (Nat.zero_le _) (Nat.zero_le _) trivial rfl h
theorem wX11_partTold {d n : Nat} {dy : Nat → Shp} {g : Hp} {P : Pst} {r0 : Nat} {x1 : Int} (hn : 100 ≤ n) (h : (i3 x1) ∧ ((x1 < 0 ∨ 5 < x1) → Runs miX11_topOf d [.ref r0] n (W0 dy) g (fun v n' S' g' => V miX11_partTold (d + 1) 99 [(0, .ref r0), (1, I_ x1)] (v.toList ++ []) n' S' g' 0 0 P)) ∧ (x1 = 0 → (Pt n (W0 dy) r0) ∧ P (some (I_ (g r0 1))) n (W0 dy) g) ∧ (x1 = 1 → (Pt n (W0 dy) r0) ∧ P (some (I_ (g r0 2))) n (W0 dy) g) ∧ (x1 = 2 → (Pt n (W0 dy) r0) ∧ ((0 < ((g r0 3).toNat)) → (Ob n (W0 dy) ((g r0 3).toNat) 5) ∧ P (some (I_ (g ((g r0 3).toNat) 0))) n (W0 dy) g) ∧ ((((g r0 3).toNat) = 0) → P (some (I_ ((-1)))) n (W0 dy) g)) ∧ (x1 = 3 → (Pt n (W0 dy) r0) ∧ ((0 < ((g r0 3).toNat)) → P (some (I_ (g r0 4))) n (W0 dy) g) ∧ ((((g r0 3).toNat) = 0) → P (some (I_ ((-1)))) n (W0 dy) g)) ∧ (x1 = 4 → (Pt n (W0 dy) r0) ∧ P (some (I_ (g r0 5))) n (W0 dy) g) ∧ (x1 = 5 → Runs miX11_heightOf d [.ref r0] n (W0 dy) g (fun v n' S' g' => V miX11_partTold (d + 1) 94 [(0, .ref r0), (1, I_ x1)] (v.toList ++ []) n' S' g' 0 0 P))) : Runs miX11_partTold (d + 1) [.ref r0, I_ x1] n (W0 dy) g P := Runs.of rfl rfl deX11_partTold (Nat.le_of_ble_eq_true rfl) (bX11_partTold_0 hn h)
theorem fl11_385_5 : FR RX11 385 5 10 := ⟨RX6, TX6, 16, "MobileMaker$Rod", rfl, rfl, by decide, kf5, tbG_in (List.mem_append_right _ (List.mem_of_getElem? (i := 448) (by decide +kernel))) rfl, Or.inl rfl⟩
theorem fl11_388_5 : FR RX11 388 5 11 := ⟨RX6, TX6, 16, "MobileMaker$Rod", rfl, rfl, by decide, kf5, tbG_in (List.mem_append_right _ (List.mem_of_getElem? (i := 451) (by decide +kernel))) rfl, Or.inl rfl⟩
theorem lv11_200_rodTold_5 : LkV miX11_rodTold miX6_side 200 1 5 := ⟨⟨⟨tbG_in (List.mem_append_right _ (List.mem_of_getElem? (i := 627) (by decide +kernel))) rfl, tbG_in (List.mem_append_right _ (List.mem_of_getElem? (i := 14) (by decide +kernel))) rfl, tbG_in (List.mem_append_right _ (List.mem_of_getElem? (i := 624) (by decide +kernel))) rfl⟩, ⟨by decide +kernel, by decide +kernel, by decide +kernel⟩, by decide⟩, tbG_in (List.mem_append_right _ (List.mem_of_getElem? (i := 625) (by decide +kernel))) rfl, RX6, TX6, 16, rfl, tbG_in (List.mem_append_right _ (List.mem_of_getElem? (i := 626) (by decide +kernel))) rfl⟩
set_option maxHeartbeats 8000000 in
set_option maxRecDepth 4000 in
theorem bX11_rodTold_0 {d n : Nat} {dy : Nat → Shp} {g : Hp} {P : Pst} {r0 : Nat} {x1 : Int} (hn : 100 ≤ n) (h : (i3 x1) ∧ ((x1 < 0 ∨ 3 < x1) → ((x1 ≠ 4) → (Ob n (W0 dy) r0 5) ∧ Runs miX6_side d [.ref r0, I_ 1] n (W0 dy) g (fun v n' S' g' => V miX11_rodTold (d + 1) 70 [(0, .ref r0), (1, I_ x1)] (v.toList ++ []) n' S' g' 0 0 P)) ∧ ((x1 = 4) → (Ob n (W0 dy) r0 5) ∧ Runs miX6_side d [.ref r0, I_ 0] n (W0 dy) g (fun v n' S' g' => V miX11_rodTold (d + 1) 70 [(0, .ref r0), (1, I_ x1)] (v.toList ++ []) n' S' g' 0 0 P))) ∧ (x1 = 0 → (Ob n (W0 dy) r0 5) ∧ P (some (L_ (g r0 10))) n (W0 dy) g) ∧ (x1 = 1 → (Ob n (W0 dy) r0 5) ∧ P (some (L_ (g r0 11))) n (W0 dy) g) ∧ (x1 = 2 → (Ob n (W0 dy) r0 5) ∧ P (some (L_ (g r0 12))) n (W0 dy) g) ∧ (x1 = 3 → (Ob n (W0 dy) r0 5) ∧ P (some (L_ (g r0 13))) n (W0 dy) g)) : V miX11_rodTold (d + 1) 0 [(0, .ref r0), (1, I_ x1)] [] n (W0 dy) g 0 0 P := by
  refine v_iload_n 0 1 rfl rfl rfl ?_
  have c1 := h.1
  have h := h.2
  by_cases q17 : x1 < 0 ∨ 3 < x1
  · have h := h.1 q17
    refine v_tswOut 1 rfl c1 q17 (tgt := 56) rfl ?_
    refine v_aload_n 18 0 rfl rfl rfl ?_
    refine v_iload_n 19 1 rfl rfl rfl ?_
    refine v_iconst 20 rfl ?_
    refine v_icmp_ne 21 rfl (tgt := 66) rfl c1 (by decide) (fun q2 => ?_) (fun q2 => ?_)
    · have h := h.1 q2
      refine v_iconst 24 rfl ?_
      have c3 := h.1
      have h := h.2
      refine v_callV (st := []) [I_ 1] 25 rfl lv11_200_rodTold_5 c3.1 c3.2.1 (by decide) rfl (Nat.le_refl _) (Nat.le_refl _) ?_
      exact h
    · have h := h.2 q2
      refine v_iconst 22 rfl ?_
      refine v_goto 23 rfl (tgt := 67) rfl ?_
      have c4 := h.1
      have h := h.2
      refine v_callV (st := []) [I_ 0] 25 rfl lv11_200_rodTold_5 c4.1 c4.2.1 (by decide) rfl (Nat.le_refl _) (Nat.le_refl _) ?_
      exact h
  by_cases q17_0 : x1 = 0
  · have h := h.2.1 q17_0
    refine v_tswIn 1 rfl c1 (by omega) (by omega) (off := 31) (tgt := 32) (by rw [q17_0]; rfl) rfl ?_
    refine v_aload_n 2 0 rfl rfl rfl ?_
    have c5 := h.1
    have h := h.2
    refine v_gI 3 rfl fl11_385_5 c5.1 c5.2.1 (by decide) rfl (c5.2.2 10) (x := g r0 10) rfl ?_
    refine v_rng fun w6 => ?_
    have p7 : i3 (g r0 10) := rI w6 (q := 10) c5.1 c5.2.1 rfl rfl
    refine v_i2l 4 rfl p7 ?_
    exact v_ret (v := some (L_ (g r0 10))) 5 rfl (Nat.zero_le _) (Nat.zero_le _) trivial rfl h
  by_cases q17_1 : x1 = 1
  · have h := h.2.2.1 q17_1
    refine v_tswIn 1 rfl c1 (by omega) (by omega) (off := 37) (tgt := 38) (by rw [q17_1]; rfl) rfl ?_
    refine v_aload_n 6 0 rfl rfl rfl ?_
    have c8 := h.1
    have h := h.2
    refine v_gI 7 rfl fl11_388_5 c8.1 c8.2.1 (by decide) rfl (c8.2.2 11) (x := g r0 11) rfl ?_
    refine v_rng fun w9 => ?_
    have p10 : i3 (g r0 11) := rI w9 (q := 11) c8.1 c8.2.1 rfl rfl
    refine v_i2l 8 rfl p10 ?_
    exact v_ret (v := some (L_ (g r0 11))) 9 rfl (Nat.zero_le _) (Nat.zero_le _) trivial rfl h
  by_cases q17_2 : x1 = 2
  · have h := h.2.2.2.1 q17_2
    refine v_tswIn 1 rfl c1 (by omega) (by omega) (off := 43) (tgt := 44) (by rw [q17_2]; rfl) rfl ?_
    refine v_aload_n 10 0 rfl rfl rfl ?_
    have c11 := h.1
    have h := h.2
    refine v_gI 11 rfl fl11_214_5.r c11.1 c11.2.1 (by decide) rfl (c11.2.2 12) (x := g r0 12) rfl ?_
    refine v_rng fun w12 => ?_
    have p13 : i3 (g r0 12) := rI w12 (q := 12) c11.1 c11.2.1 rfl rfl
    refine v_i2l 12 rfl p13 ?_
    exact v_ret (v := some (L_ (g r0 12))) 13 rfl (Nat.zero_le _) (Nat.zero_le _) trivial rfl h
  by_cases q17_3 : x1 = 3
  · have h := h.2.2.2.2 q17_3
    refine v_tswIn 1 rfl c1 (by omega) (by omega) (off := 49) (tgt := 50) (by rw [q17_3]; rfl) rfl ?_
    refine v_aload_n 14 0 rfl rfl rfl ?_
    have c14 := h.1
    have h := h.2
    refine v_gI 15 rfl fl11_217_5.r c14.1 c14.2.1 (by decide) rfl (c14.2.2 13) (x := g r0 13) rfl ?_
    refine v_rng fun w15 => ?_
    have p16 : i3 (g r0 13) := rI w15 (q := 13) c14.1 c14.2.1 rfl rfl
    refine v_i2l 16 rfl p16 ?_
    exact v_ret (v := some (L_ (g r0 13))) 17 rfl (Nat.zero_le _) (Nat.zero_le _) trivial rfl h
  exfalso; omega
set_option maxHeartbeats 8000000 in
set_option maxRecDepth 4000 in
theorem bX11_rodTold_70 {d n : Nat} {dy : Nat → Shp} {g : Hp} {P : Pst} {r0 : Nat} {x1 : Int} {rs0 : Nat} (hn : 100 ≤ n) (h : ((0 < rs0) → (Pt n (W0 dy) rs0) ∧ P (some (L_ (g rs0 0))) n (W0 dy) g) ∧ ((rs0 = 0) → P (some (L_ ((-1)))) n (W0 dy) g)) : V miX11_rodTold (d + 1) 70 [(0, .ref r0), (1, I_ x1)] [.ref rs0] n (W0 dy) g 0 0 P := by
  refine v_astore_n 26 [1, 2, 0] rfl rfl (by decide) rfl ?_
  refine v_aload_n 27 2 rfl rfl rfl ?_
  refine v_ifnonnull 28 rfl (tgt := 81) rfl (fun q1 => ?_) (fun q1 => ?_)
  · have h := h.1 q1
    refine v_aload_n 31 2 rfl rfl rfl ?_
    have c2 := h.1
    have h := h.2
    refine v_pI 32 rfl ⟨fl11_372_3, fl11_372_5, fl11_372_9⟩ c2 ⟨rfl, rfl, rfl⟩ (x := g rs0 0) rfl ?_
    refine v_rng fun w3 => ?_
    have p4 : i3 (g rs0 0) := rPI w3 (q := 0) c2 rfl rfl rfl rfl
    refine v_i2l 33 rfl p4 ?_
    exact v_ret (v := some (L_ (g rs0 0))) 34 rfl (Nat.zero_le _) (Nat.zero_le _) trivial rfl h
  · have h := h.2 q1
    refine v_ldc2 (v := (-1)) 29 rfl (tbG_in (List.mem_append_right _ (List.mem_of_getElem? (i := 312) (by decide +kernel))) rfl) ?_
    refine v_goto 30 rfl (tgt := 86) rfl ?_
    exact v_ret (v := some (L_ ((-1)))) 34 rfl (Nat.zero_le _) (Nat.zero_le _) trivial rfl h
theorem wX11_rodTold {d n : Nat} {dy : Nat → Shp} {g : Hp} {P : Pst} {r0 : Nat} {x1 : Int} (hn : 100 ≤ n) (h : (i3 x1) ∧ ((x1 < 0 ∨ 3 < x1) → ((x1 ≠ 4) → (Ob n (W0 dy) r0 5) ∧ Runs miX6_side d [.ref r0, I_ 1] n (W0 dy) g (fun v n' S' g' => V miX11_rodTold (d + 1) 70 [(0, .ref r0), (1, I_ x1)] (v.toList ++ []) n' S' g' 0 0 P)) ∧ ((x1 = 4) → (Ob n (W0 dy) r0 5) ∧ Runs miX6_side d [.ref r0, I_ 0] n (W0 dy) g (fun v n' S' g' => V miX11_rodTold (d + 1) 70 [(0, .ref r0), (1, I_ x1)] (v.toList ++ []) n' S' g' 0 0 P))) ∧ (x1 = 0 → (Ob n (W0 dy) r0 5) ∧ P (some (L_ (g r0 10))) n (W0 dy) g) ∧ (x1 = 1 → (Ob n (W0 dy) r0 5) ∧ P (some (L_ (g r0 11))) n (W0 dy) g) ∧ (x1 = 2 → (Ob n (W0 dy) r0 5) ∧ P (some (L_ (g r0 12))) n (W0 dy) g) ∧ (x1 = 3 → (Ob n (W0 dy) r0 5) ∧ P (some (L_ (g r0 13))) n (W0 dy) g)) : Runs miX11_rodTold (d + 1) [.ref r0, I_ x1] n (W0 dy) g P := Runs.of rfl rfl deX11_rodTold (Nat.le_of_ble_eq_true rfl) (bX11_rodTold_0 hn h)
set_option maxHeartbeats 8000000 in
set_option maxRecDepth 4000 in
theorem bX11_topOf_0 {d n : Nat} {dy : Nat → Shp} {g : Hp} {P : Pst} {r0 : Nat} (hn : 100 ≤ n) (h : (Pt n (W0 dy) r0) ∧ V miX11_topOf d 7 [(0, .ref r0), (1, .ref r0), (2, .ref ((g r0 3).toNat))] [] n (W0 dy) g 0 0 P) : V miX11_topOf d 0 [(0, .ref r0)] [] n (W0 dy) g 0 0 P := by
  refine v_aload_n 0 0 rfl rfl rfl ?_
  refine v_astore_n 1 [1, 0] rfl rfl (by decide) rfl ?_
  refine v_aload_n 2 0 rfl rfl rfl ?_
  have c1 := h.1
  have h := h.2
  refine v_pR 3 rfl ⟨fl11_196_3.r, fl11_196_5.r, fl11_196_9.r⟩ c1 ⟨rfl, rfl, rfl⟩ (x := g r0 3) rfl ?_
  refine v_astore_n 4 [1, 2, 0] rfl rfl (by decide) rfl ?_
  exact h
set_option maxHeartbeats 8000000 in
set_option maxRecDepth 4000 in
theorem bX11_topOf_7 {d n : Nat} {dy : Nat → Shp} {g : Hp} {P : Pst} {r0 : Nat} {r1 : Nat} {r2 : Nat} (hn : 100 ≤ n) (h : ((r2 = 0) → P (some (.ref r1)) n (W0 dy) g) ∧ ((0 < r2) → (Ob n (W0 dy) r2 5) ∧ V miX11_topOf d 7 [(0, .ref r0), (1, .ref r2), (2, .ref ((g r2 3).toNat))] [] n (W0 dy) g 0 0 P)) : V miX11_topOf d 7 [(0, .ref r0), (1, .ref r1), (2, .ref r2)] [] n (W0 dy) g 0 0 P := by
  refine v_aload_n 5 2 rfl rfl rfl ?_
  refine v_ifnull 6 rfl (tgt := 21) rfl (fun q1 => ?_) (fun q1 => ?_)
  · have h := h.1 q1
    refine v_aload_n 13 1 rfl rfl rfl ?_
    exact v_ret (v := some (.ref r1)) 14 rfl (Nat.zero_le _) (Nat.zero_le _) trivial rfl h
  · have h := h.2 q1
    refine v_aload_n 7 2 rfl rfl rfl ?_
    refine v_astore_n 8 [1, 0, 2] rfl rfl (by decide) rfl ?_
    refine v_aload_n 9 2 rfl rfl rfl ?_
    have c2 := h.1
    have h := h.2
    refine v_gR 10 rfl fl11_261_5.r c2.1 c2.2.1 (by decide) rfl (c2.2.2 3) (x := g r2 3) rfl ?_
    refine v_astore_n 11 [1, 2, 0] rfl rfl (by decide) rfl ?_
    refine v_goto 12 rfl (tgt := 7) rfl ?_
    exact h
theorem wX11_topOf {d n : Nat} {dy : Nat → Shp} {g : Hp} {P : Pst} {r0 : Nat} (hn : 100 ≤ n) (h : (Pt n (W0 dy) r0) ∧ V miX11_topOf d 7 [(0, .ref r0), (1, .ref r0), (2, .ref ((g r0 3).toNat))] [] n (W0 dy) g 0 0 P) : Runs miX11_topOf d [.ref r0] n (W0 dy) g P := Runs.of rfl rfl deX11_topOf (Nat.le_of_ble_eq_true rfl) (bX11_topOf_0 hn h)
theorem fl11_391_5 : FL RX11 391 5 5 false .int := ⟨RX6, TX6, 16, "MobileMaker$Rod", rfl, rfl, by decide, kf5, tbG_in (List.mem_append_right _ (List.mem_of_getElem? (i := 382) (by decide +kernel))) rfl, Or.inr (tbG_in (List.mem_append_right _ (List.mem_of_getElem? (i := 383) (by decide +kernel))) rfl), rfl, by decide +kernel, ⟨tyX6, tyX6_ok⟩, nmX6, fun h => by cases h⟩
set_option maxHeartbeats 8000000 in
set_option maxRecDepth 4000 in
theorem bX11_heightOf_0 {d n : Nat} {dy : Nat → Shp} {g : Hp} {P : Pst} {r0 : Nat} (hn : 100 ≤ n) (h : (Pt n (W0 dy) r0) ∧ V miX11_heightOf d 10 [(0, .ref r0), (1, I_ (g r0 5)), (2, .ref ((g r0 3).toNat))] [] n (W0 dy) g 0 0 P) : V miX11_heightOf d 0 [(0, .ref r0)] [] n (W0 dy) g 0 0 P := by
  refine v_aload_n 0 0 rfl rfl rfl ?_
  have c1 := h.1
  have h := h.2
  refine v_pI 1 rfl ⟨fl11_207_3.r, fl11_207_5.r, fl11_207_9.r⟩ c1 ⟨rfl, rfl, rfl⟩ (x := g r0 5) rfl ?_
  refine v_rng fun w2 => ?_
  have p3 : i3 (g r0 5) := rPI w2 (q := 5) c1 rfl rfl rfl rfl
  refine v_istore_n 2 [1, 0] rfl rfl (by decide) rfl ?_
  refine v_aload_n 3 0 rfl rfl rfl ?_
  refine v_pR 4 rfl ⟨fl11_196_3.r, fl11_196_5.r, fl11_196_9.r⟩ c1 ⟨rfl, rfl, rfl⟩ (x := g r0 3) rfl ?_
  refine v_astore_n 5 [1, 2, 0] rfl rfl (by decide) rfl ?_
  exact h
set_option maxHeartbeats 8000000 in
set_option maxRecDepth 4000 in
theorem bX11_heightOf_10 {d n : Nat} {dy : Nat → Shp} {g : Hp} {P : Pst} {r0 : Nat} {x1 : Int} {r2 : Nat} (hn : 100 ≤ n) (h : ((r2 = 0) → P (some (I_ x1)) n (W0 dy) g) ∧ ((0 < r2) → (Ob n (W0 dy) r2 5) ∧ V miX11_heightOf d 10 [(0, .ref r0), (1, I_ (x1 + (g r2 5))), (2, .ref ((g r2 3).toNat))] [] n (W0 dy) g 0 0 P)) : V miX11_heightOf d 10 [(0, .ref r0), (1, I_ x1), (2, .ref r2)] [] n (W0 dy) g 0 0 P := by
  refine v_aload_n 6 2 rfl rfl rfl ?_
  refine v_ifnull 7 rfl (tgt := 29) rfl (fun q1 => ?_) (fun q1 => ?_)
  · have h := h.1 q1
    refine v_iload_n 17 1 rfl rfl rfl ?_
    exact v_ret (v := some (I_ x1)) 18 rfl (Nat.zero_le _) (Nat.zero_le _) trivial rfl h
  · have h := h.2 q1
    refine v_iload_n 8 1 rfl rfl rfl ?_
    refine v_aload_n 9 2 rfl rfl rfl ?_
    have c2 := h.1
    have h := h.2
    refine v_gI 10 rfl fl11_391_5.r c2.1 c2.2.1 (by decide) rfl (c2.2.2 5) (x := g r2 5) rfl ?_
    refine v_rng fun w3 => ?_
    have p4 : i3 (g r2 5) := rI w3 (q := 5) c2.1 c2.2.1 rfl rfl
    refine v_iadd 11 rfl ?_
    refine v_istore_n 12 [1, 0, 2] rfl rfl (by decide) rfl ?_
    refine v_aload_n 13 2 rfl rfl rfl ?_
    refine v_gR 14 rfl fl11_261_5.r c2.1 c2.2.1 (by decide) rfl (c2.2.2 3) (x := g r2 3) rfl ?_
    refine v_astore_n 15 [1, 2, 0] rfl rfl (by decide) rfl ?_
    refine v_goto 16 rfl (tgt := 10) rfl ?_
    exact h
theorem wX11_heightOf {d n : Nat} {dy : Nat → Shp} {g : Hp} {P : Pst} {r0 : Nat} (hn : 100 ≤ n) (h : (Pt n (W0 dy) r0) ∧ V miX11_heightOf d 10 [(0, .ref r0), (1, I_ (g r0 5)), (2, .ref ((g r0 3).toNat))] [] n (W0 dy) g 0 0 P) : Runs miX11_heightOf d [.ref r0] n (W0 dy) g P := Runs.of rfl rfl deX11_heightOf (Nat.le_of_ble_eq_true rfl) (bX11_heightOf_0 hn h)
set_option maxHeartbeats 8000000 in
set_option maxRecDepth 4000 in
theorem bX11_isAbove_0 {d n : Nat} {dy : Nat → Shp} {g : Hp} {P : Pst} {r0 : Nat} {r1 : Nat} (hn : 100 ≤ n) (h : (Pt n (W0 dy) r1) ∧ V miX11_isAbove d 5 [(0, .ref r0), (1, .ref r1), (2, .ref ((g r1 3).toNat))] [] n (W0 dy) g 0 0 P) : V miX11_isAbove d 0 [(0, .ref r0), (1, .ref r1)] [] n (W0 dy) g 0 0 P := by
  refine v_aload_n 0 1 rfl rfl rfl ?_
  have c1 := h.1
  have h := h.2
  refine v_pR 1 rfl ⟨fl11_196_3.r, fl11_196_5.r, fl11_196_9.r⟩ c1 ⟨rfl, rfl, rfl⟩ (x := g r1 3) rfl ?_
  refine v_astore_n 2 [1, 2, 0] rfl rfl (by decide) rfl ?_
  exact h
set_option maxHeartbeats 8000000 in
set_option maxRecDepth 4000 in
theorem bX11_isAbove_5 {d n : Nat} {dy : Nat → Shp} {g : Hp} {P : Pst} {r0 : Nat} {r1 : Nat} {r2 : Nat} (hn : 100 ≤ n) (h : ((r2 = 0) → P (some (I_ 0)) n (W0 dy) g) ∧ ((0 < r2) → ((r2 ≠ r0) → (Ob n (W0 dy) r2 5) ∧ V miX11_isAbove d 5 [(0, .ref r0), (1, .ref r1), (2, .ref ((g r2 3).toNat))] [] n (W0 dy) g 0 0 P) ∧ ((r2 = r0) → P (some (I_ 1)) n (W0 dy) g))) : V miX11_isAbove d 5 [(0, .ref r0), (1, .ref r1), (2, .ref r2)] [] n (W0 dy) g 0 0 P := by
  refine v_aload_n 3 2 rfl rfl rfl ?_
  refine v_ifnull 4 rfl (tgt := 24) rfl (fun q1 => ?_) (fun q1 => ?_)
  · have h := h.1 q1
    refine v_iconst 14 rfl ?_
    exact v_ret (v := some (I_ 0)) 15 rfl (Nat.zero_le _) (Nat.zero_le _) (Or.inl rfl) rfl h
  · have h := h.2 q1
    refine v_aload_n 5 2 rfl rfl rfl ?_
    refine v_aload_n 6 0 rfl rfl rfl ?_
    refine v_acmp_ne 7 rfl (tgt := 16) rfl (fun q2 => ?_) (fun q2 => ?_)
    · have h := h.1 q2
      refine v_aload_n 10 2 rfl rfl rfl ?_
      have c3 := h.1
      have h := h.2
      refine v_gR 11 rfl fl11_261_5.r c3.1 c3.2.1 (by decide) rfl (c3.2.2 3) (x := g r2 3) rfl ?_
      refine v_astore_n 12 [1, 2, 0] rfl rfl (by decide) rfl ?_
      refine v_goto 13 rfl (tgt := 5) rfl ?_
      exact h
    · have h := h.2 q2
      refine v_iconst 8 rfl ?_
      exact v_ret (v := some (I_ 1)) 9 rfl (Nat.zero_le _) (Nat.zero_le _) (Or.inr rfl) rfl h
theorem wX11_isAbove {d n : Nat} {dy : Nat → Shp} {g : Hp} {P : Pst} {r0 : Nat} {r1 : Nat} (hn : 100 ≤ n) (h : (Pt n (W0 dy) r1) ∧ V miX11_isAbove d 5 [(0, .ref r0), (1, .ref r1), (2, .ref ((g r1 3).toNat))] [] n (W0 dy) g 0 0 P) : Runs miX11_isAbove d [.ref r0, .ref r1] n (W0 dy) g P := Runs.of rfl rfl deX11_isAbove (Nat.le_of_ble_eq_true rfl) (bX11_isAbove_0 hn h)
theorem fl11_392_3 : FL RX11 392 3 6 false .long := ⟨RX4, TX4, 14, "MobileMaker$Part", rfl, rfl, by decide, kf3, tbG_in (List.mem_append_right _ (List.mem_of_getElem? (i := 389) (by decide +kernel))) rfl, Or.inl rfl, rfl, by decide +kernel, ⟨tyX4, tyX4_ok⟩, nmX4, fun h => by cases h⟩
theorem fl11_392_5 : FL RX11 392 5 6 false .long := ⟨RX6, TX6, 16, "MobileMaker$Part", rfl, rfl, by decide, kf5, tbG_in (List.mem_append_right _ (List.mem_of_getElem? (i := 389) (by decide +kernel))) rfl, Or.inl rfl, rfl, by decide +kernel, ⟨tyX6, tyX6_ok⟩, nmX6, fun h => by cases h⟩
theorem fl11_392_9 : FL RX11 392 9 6 false .long := ⟨RX10, TX10, 10, "MobileMaker$Part", rfl, rfl, by decide, kf9, tbG_in (List.mem_append_right _ (List.mem_of_getElem? (i := 389) (by decide +kernel))) rfl, Or.inl rfl, rfl, by decide +kernel, ⟨tyX10, tyX10_ok⟩, nmX10, fun h => by cases h⟩
theorem lu11_395_lastAboveBoth : LkU miX11_lastAboveBoth miX2_bit 395 0 5 "MobileMaker$Rod" := ⟨⟨tbG_in (List.mem_append_right _ (List.mem_of_getElem? (i := 693) (by decide +kernel))) rfl, tbG_in (List.mem_append_right _ (List.mem_of_getElem? (i := 12) (by decide +kernel))) rfl⟩, ⟨tbG_in (List.mem_append_right _ (List.mem_of_getElem? (i := 800) (by decide +kernel))) rfl, tbG_in (List.mem_append_right _ (List.mem_of_getElem? (i := 801) (by decide +kernel))) rfl, tbG_in (List.mem_append_right _ (List.mem_of_getElem? (i := 688) (by decide +kernel))) rfl, RX6, TX6, 16, rfl, tbG_in (List.mem_append_right _ (List.mem_of_getElem? (i := 803) (by decide +kernel))) rfl⟩, ⟨by decide +kernel, by decide +kernel, by decide +kernel⟩, by decide⟩
set_option maxHeartbeats 8000000 in
set_option maxRecDepth 4000 in
theorem bX11_lastAboveBoth_0 {d n : Nat} {dy : Nat → Shp} {g : Hp} {P : Pst} {r0 : Nat} {r1 : Nat} (hn : 100 ≤ n) (h : (Pt n (W0 dy) r0) ∧ V miX11_lastAboveBoth (d + 1) 5 [(0, .ref r0), (1, .ref r1), (2, .ref ((g r0 3).toNat))] [] n (W0 dy) g 0 0 P) : V miX11_lastAboveBoth (d + 1) 0 [(0, .ref r0), (1, .ref r1)] [] n (W0 dy) g 0 0 P := by
  refine v_aload_n 0 0 rfl rfl rfl ?_
  have c1 := h.1
  have h := h.2
  refine v_pR 1 rfl ⟨fl11_196_3.r, fl11_196_5.r, fl11_196_9.r⟩ c1 ⟨rfl, rfl, rfl⟩ (x := g r0 3) rfl ?_
  refine v_astore_n 2 [1, 2, 0] rfl rfl (by decide) rfl ?_
  exact h
set_option maxHeartbeats 8000000 in
set_option maxRecDepth 4000 in
theorem bX11_lastAboveBoth_5 {d n : Nat} {dy : Nat → Shp} {g : Hp} {P : Pst} {r0 : Nat} {r1 : Nat} {r2 : Nat} (hn : 100 ≤ n) (h : ((r2 = 0) → P (some (.ref 0)) n (W0 dy) g) ∧ ((0 < r2) → (Pt n (W0 dy) r1) ∧ (Ob n (W0 dy) r2 5) ∧ Runs miX2_bit d [.ref r2] n (W0 dy) g (fun v n' S' g' => V miX11_lastAboveBoth (d + 1) 17 [(0, .ref r0), (1, .ref r1), (2, .ref r2)] (v.toList ++ [L_ (g r1 6)]) n' S' g' 0 0 P))) : V miX11_lastAboveBoth (d + 1) 5 [(0, .ref r0), (1, .ref r1), (2, .ref r2)] [] n (W0 dy) g 0 0 P := by
  refine v_aload_n 3 2 rfl rfl rfl ?_
  refine v_ifnull 4 rfl (tgt := 33) rfl (fun q1 => ?_) (fun q1 => ?_)
  · have h := h.1 q1
    refine v_null 19 rfl ?_
    exact v_ret (v := some (.ref 0)) 20 rfl (Nat.zero_le _) (Nat.zero_le _) trivial rfl h
  · have h := h.2 q1
    refine v_aload_n 5 1 rfl rfl rfl ?_
    have c2 := h.1
    have h := h.2
    refine v_pL 6 rfl ⟨fl11_392_3.r, fl11_392_5.r, fl11_392_9.r⟩ c2 ⟨rfl, rfl, rfl⟩ (x := g r1 6) rfl ?_
    refine v_rng fun w3 => ?_
    have p4 : i6 (g r1 6) := rPL w3 (q := 6) c2 rfl rfl rfl rfl
    refine v_aload_n 7 2 rfl rfl rfl ?_
    have c5 := h.1
    have h := h.2
    refine v_callU (st := [L_ (g r1 6)]) [] 8 rfl lu11_395_lastAboveBoth c5.1 c5.2.1 (by decide) rfl (Nat.le_refl _) (Nat.le_refl _) ?_
    exact h
set_option maxHeartbeats 8000000 in
set_option maxRecDepth 4000 in
theorem bX11_lastAboveBoth_17 {d n : Nat} {dy : Nat → Shp} {g : Hp} {P : Pst} {r0 : Nat} {r1 : Nat} {r2 : Nat} {xs0 : Int} {xs1 : Int} (hn : 100 ≤ n) (h : (((and6 xs0 xs1) = 0) → (Ob n (W0 dy) r2 5) ∧ V miX11_lastAboveBoth (d + 1) 5 [(0, .ref r0), (1, .ref r1), (2, .ref ((g r2 3).toNat))] [] n (W0 dy) g 0 0 P) ∧ (((and6 xs0 xs1) ≠ 0) → P (some (.ref r2)) n (W0 dy) g)) : V miX11_lastAboveBoth (d + 1) 17 [(0, .ref r0), (1, .ref r1), (2, .ref r2)] [L_ xs1, L_ xs0] n (W0 dy) g 0 0 P := by
  refine v_land 9 rfl ?_
  refine v_lconst (v := 0) 10 rfl (by decide) ?_
  refine v_lif_eq 11 rfl rfl (tgt := 25) rfl (and6_r _ _) (by decide) (fun q1 => ?_) (fun q1 => ?_)
  · have h := h.1 q1
    refine v_aload_n 15 2 rfl rfl rfl ?_
    have c2 := h.1
    have h := h.2
    refine v_gR 16 rfl fl11_261_5.r c2.1 c2.2.1 (by decide) rfl (c2.2.2 3) (x := g r2 3) rfl ?_
    refine v_astore_n 17 [1, 2, 0] rfl rfl (by decide) rfl ?_
    refine v_goto 18 rfl (tgt := 5) rfl ?_
    exact h
  · have h := h.2 q1
    refine v_aload_n 13 2 rfl rfl rfl ?_
    exact v_ret (v := some (.ref r2)) 14 rfl (Nat.zero_le _) (Nat.zero_le _) trivial rfl h
theorem wX11_lastAboveBoth {d n : Nat} {dy : Nat → Shp} {g : Hp} {P : Pst} {r0 : Nat} {r1 : Nat} (hn : 100 ≤ n) (h : (Pt n (W0 dy) r0) ∧ V miX11_lastAboveBoth (d + 1) 5 [(0, .ref r0), (1, .ref r1), (2, .ref ((g r0 3).toNat))] [] n (W0 dy) g 0 0 P) : Runs miX11_lastAboveBoth (d + 1) [.ref r0, .ref r1] n (W0 dy) g P := Runs.of rfl rfl deX11_lastAboveBoth (Nat.le_of_ble_eq_true rfl) (bX11_lastAboveBoth_0 hn h)
theorem lv11_273_canTouch_6 : LkV miX11_canTouch miX7_least 273 0 6 := ⟨⟨⟨tbG_in (List.mem_append_right _ (List.mem_of_getElem? (i := 784) (by decide +kernel))) rfl, tbG_in (List.mem_append_right _ (List.mem_of_getElem? (i := 4) (by decide +kernel))) rfl, tbG_in (List.mem_append_right _ (List.mem_of_getElem? (i := 781) (by decide +kernel))) rfl⟩, ⟨by decide +kernel, by decide +kernel, by decide +kernel⟩, by decide⟩, tbG_in (List.mem_append_right _ (List.mem_of_getElem? (i := 782) (by decide +kernel))) rfl, RX7, TX7, 3, rfl, tbG_in (List.mem_append_right _ (List.mem_of_getElem? (i := 783) (by decide +kernel))) rfl⟩
set_option maxHeartbeats 8000000 in
set_option maxRecDepth 4000 in
theorem bX11_canTouch_0 {d n : Nat} {dy : Nat → Shp} {g : Hp} {P : Pst} {r1 : Nat} (hn : 100 ≤ n) (h : ((r1 = 0) → P (some (I_ 0)) n (W0 dy) g) ∧ ((0 < r1) → (Ob n (W0 dy) r1 5) ∧ (i3 ((g 9 0) + (g 10 0))) ∧ ((((g 9 0) + (g 10 0)) < (g r1 10)) → P (some (I_ 0)) n (W0 dy) g) ∧ (((g r1 10) ≤ ((g 9 0) + (g 10 0))) → Runs miX7_least d [.ref 9] n (W0 dy) g (fun v n' S' g' => V miX11_canTouch (d + 1) 33 [(0, .ref 1), (1, .ref r1)] (v.toList ++ []) n' S' g' 0 0 P)))) : V miX11_canTouch (d + 1) 0 [(0, .ref 1), (1, .ref r1)] [] n (W0 dy) g 0 0 P := by
  refine v_aload_n 0 1 rfl rfl rfl ?_
  refine v_ifnull 1 rfl (tgt := 74) rfl (fun q1 => ?_) (fun q1 => ?_)
  · have h := h.1 q1
    refine v_iconst 34 rfl ?_
    exact v_ret (v := some (I_ 0)) 35 rfl (Nat.zero_le _) (Nat.zero_le _) (Or.inl rfl) rfl h
  · have h := h.2 q1
    refine v_aload_n 2 1 rfl rfl rfl ?_
    have c2 := h.1
    have h := h.2
    refine v_gI 3 rfl fl11_385_5 c2.1 c2.2.1 (by decide) rfl (c2.2.2 10) (x := g r1 10) rfl ?_
    refine v_rng fun w3 => ?_
    have p4 : i3 (g r1 10) := rI w3 (q := 10) c2.1 c2.2.1 rfl rfl
    refine v_aload_n 4 0 rfl rfl rfl ?_
    refine v_gK 5 rfl fl11_45_10.r (al 1 rfl hn) (wk1 dy) (by decide) rfl (r := 9) (wc1_6 dy) ?_
    refine v_gI 6 rfl fl11_270_6.r (al 9 rfl hn) (wk9 dy) (by decide) rfl (wc9_0 dy) (x := g 9 0) rfl ?_
    refine v_rng fun w5 => ?_
    have p6 : i3 (g 9 0) := rI w5 (q := 0) (al 9 rfl hn) (wk9 dy) rfl rfl
    refine v_aload_n 7 0 rfl rfl rfl ?_
    refine v_gK 8 rfl fl11_49_10.r (al 1 rfl hn) (wk1 dy) (by decide) rfl (r := 10) (wc1_7 dy) ?_
    refine v_gI 9 rfl fl11_270_6.r (al 10 rfl hn) (wk10 dy) (by decide) rfl (wc10_0 dy) (x := g 10 0) rfl ?_
    refine v_rng fun w7 => ?_
    have p8 : i3 (g 10 0) := rI w7 (q := 0) (al 10 rfl hn) (wk10 dy) rfl rfl
    refine v_iadd 10 rfl ?_
    have c9 := h.1
    have h := h.2
    refine v_icmp_gt 11 rfl (tgt := 74) rfl p4 c9 (fun q10 => ?_) (fun q10 => ?_)
    · have h := h.1 q10
      refine v_iconst 34 rfl ?_
      exact v_ret (v := some (I_ 0)) 35 rfl (Nat.zero_le _) (Nat.zero_le _) (Or.inl rfl) rfl h
    · have h := h.2 q10
      refine v_aload_n 12 0 rfl rfl rfl ?_
      refine v_gK 13 rfl fl11_45_10.r (al 1 rfl hn) (wk1 dy) (by decide) rfl (r := 9) (wc1_6 dy) ?_
      refine v_callV (st := []) [] 14 rfl lv11_273_canTouch_6 (al 9 rfl hn) (wk9 dy) (by decide) rfl (Nat.le_refl _) (Nat.le_refl _) ?_
      exact h
set_option maxHeartbeats 8000000 in
set_option maxRecDepth 4000 in
theorem bX11_canTouch_33 {d n : Nat} {dy : Nat → Shp} {g : Hp} {P : Pst} {r1 : Nat} {xs0 : Int} (hn : 100 ≤ n) (h : (Ob n (W0 dy) r1 5) ∧ (i3 xs0) ∧ (i3 ((g 10 0) + (g r1 10))) ∧ ((((g 10 0) + (g r1 10)) < xs0) → P (some (I_ 0)) n (W0 dy) g) ∧ ((xs0 ≤ ((g 10 0) + (g r1 10))) → Runs miX7_least d [.ref 10] n (W0 dy) g (fun v n' S' g' => V miX11_canTouch (d + 1) 55 [(0, .ref 1), (1, .ref r1)] (v.toList ++ []) n' S' g' 0 0 P))) : V miX11_canTouch (d + 1) 33 [(0, .ref 1), (1, .ref r1)] [I_ xs0] n (W0 dy) g 0 0 P := by
  refine v_aload_n 15 0 rfl rfl rfl ?_
  refine v_gK 16 rfl fl11_49_10.r (al 1 rfl hn) (wk1 dy) (by decide) rfl (r := 10) (wc1_7 dy) ?_
  refine v_gI 17 rfl fl11_270_6.r (al 10 rfl hn) (wk10 dy) (by decide) rfl (wc10_0 dy) (x := g 10 0) rfl ?_
  refine v_rng fun w1 => ?_
  have p2 : i3 (g 10 0) := rI w1 (q := 0) (al 10 rfl hn) (wk10 dy) rfl rfl
  refine v_aload_n 18 1 rfl rfl rfl ?_
  have c3 := h.1
  have h := h.2
  refine v_gI 19 rfl fl11_385_5 c3.1 c3.2.1 (by decide) rfl (c3.2.2 10) (x := g r1 10) rfl ?_
  refine v_rng fun w4 => ?_
  have p5 : i3 (g r1 10) := rI w4 (q := 10) c3.1 c3.2.1 rfl rfl
  refine v_iadd 20 rfl ?_
  have c6 := h.1
  have h := h.2
  have c7 := h.1
  have h := h.2
  refine v_icmp_gt 21 rfl (tgt := 74) rfl c6 c7 (fun q8 => ?_) (fun q8 => ?_)
  · have h := h.1 q8
    refine v_iconst 34 rfl ?_
    exact v_ret (v := some (I_ 0)) 35 rfl (Nat.zero_le _) (Nat.zero_le _) (Or.inl rfl) rfl h
  · have h := h.2 q8
    refine v_aload_n 22 0 rfl rfl rfl ?_
    refine v_gK 23 rfl fl11_49_10.r (al 1 rfl hn) (wk1 dy) (by decide) rfl (r := 10) (wc1_7 dy) ?_
    refine v_callV (st := []) [] 24 rfl lv11_273_canTouch_6 (al 10 rfl hn) (wk10 dy) (by decide) rfl (Nat.le_refl _) (Nat.le_refl _) ?_
    exact h
set_option maxHeartbeats 8000000 in
set_option maxRecDepth 4000 in
theorem bX11_canTouch_55 {d n : Nat} {dy : Nat → Shp} {g : Hp} {P : Pst} {r1 : Nat} {xs0 : Int} (hn : 100 ≤ n) (h : (Ob n (W0 dy) r1 5) ∧ (i3 xs0) ∧ (i3 ((g 9 0) + (g r1 10))) ∧ ((((g 9 0) + (g r1 10)) < xs0) → P (some (I_ 0)) n (W0 dy) g) ∧ ((xs0 ≤ ((g 9 0) + (g r1 10))) → P (some (I_ 1)) n (W0 dy) g)) : V miX11_canTouch (d + 1) 55 [(0, .ref 1), (1, .ref r1)] [I_ xs0] n (W0 dy) g 0 0 P := by
  refine v_aload_n 25 0 rfl rfl rfl ?_
  refine v_gK 26 rfl fl11_45_10.r (al 1 rfl hn) (wk1 dy) (by decide) rfl (r := 9) (wc1_6 dy) ?_
  refine v_gI 27 rfl fl11_270_6.r (al 9 rfl hn) (wk9 dy) (by decide) rfl (wc9_0 dy) (x := g 9 0) rfl ?_
  refine v_rng fun w1 => ?_
  have p2 : i3 (g 9 0) := rI w1 (q := 0) (al 9 rfl hn) (wk9 dy) rfl rfl
  refine v_aload_n 28 1 rfl rfl rfl ?_
  have c3 := h.1
  have h := h.2
  refine v_gI 29 rfl fl11_385_5 c3.1 c3.2.1 (by decide) rfl (c3.2.2 10) (x := g r1 10) rfl ?_
  refine v_rng fun w4 => ?_
  have p5 : i3 (g r1 10) := rI w4 (q := 10) c3.1 c3.2.1 rfl rfl
  refine v_iadd 30 rfl ?_
  have c6 := h.1
  have h := h.2
  have c7 := h.1
  have h := h.2
  refine v_icmp_gt 31 rfl (tgt := 74) rfl c6 c7 (fun q8 => ?_) (fun q8 => ?_)
  · have h := h.1 q8
    refine v_iconst 34 rfl ?_
    exact v_ret (v := some (I_ 0)) 35 rfl (Nat.zero_le _) (Nat.zero_le _) (Or.inl rfl) rfl h
  · have h := h.2 q8
    refine v_iconst 32 rfl ?_
    refine v_goto 33 rfl (tgt := 75) rfl ?_
    exact v_ret (v := some (I_ 1)) 35 rfl (Nat.zero_le _) (Nat.zero_le _) (Or.inr rfl) rfl h
theorem wX11_canTouch {d n : Nat} {dy : Nat → Shp} {g : Hp} {P : Pst} {r1 : Nat} (hn : 100 ≤ n) (h : ((r1 = 0) → P (some (I_ 0)) n (W0 dy) g) ∧ ((0 < r1) → (Ob n (W0 dy) r1 5) ∧ (i3 ((g 9 0) + (g 10 0))) ∧ ((((g 9 0) + (g 10 0)) < (g r1 10)) → P (some (I_ 0)) n (W0 dy) g) ∧ (((g r1 10) ≤ ((g 9 0) + (g 10 0))) → Runs miX7_least d [.ref 9] n (W0 dy) g (fun v n' S' g' => V miX11_canTouch (d + 1) 33 [(0, .ref 1), (1, .ref r1)] (v.toList ++ []) n' S' g' 0 0 P)))) : Runs miX11_canTouch (d + 1) [.ref 1, .ref r1] n (W0 dy) g P := Runs.of rfl rfl deX11_canTouch (Nat.le_of_ble_eq_true rfl) (bX11_canTouch_0 hn h)
theorem lm11_398_canMeet : LkM miX11_canMeet 398 Lib.Math.abs.name Lib.Math.abs.code 1 .int := ⟨tbG_in (List.mem_append_right _ (List.mem_of_getElem? (i := 825) (by decide +kernel))) rfl, tbG_in (List.mem_append_right _ (List.mem_of_getElem? (i := 556) (by decide +kernel))) rfl, tbG_in (List.mem_append_right _ (List.mem_of_getElem? (i := 15) (by decide +kernel))) rfl, tbG_in (List.mem_append_right _ (List.mem_of_getElem? (i := 557) (by decide +kernel))) rfl⟩
theorem ls11_284_canMeet : LkS miX11_canMeet miX11_lastAboveBoth 284 2 := ⟨⟨⟨tbG_in (List.mem_append_right _ (List.mem_of_getElem? (i := 799) (by decide +kernel))) rfl, tbG_in (List.mem_append_right _ (List.mem_of_getElem? (i := 1) (by decide +kernel))) rfl, tbG_in (List.mem_append_right _ (List.mem_of_getElem? (i := 797) (by decide +kernel))) rfl⟩, ⟨by decide +kernel, by decide +kernel, by decide +kernel⟩, by decide⟩, tbG_in (List.mem_append_right _ (List.mem_of_getElem? (i := 798) (by decide +kernel))) rfl⟩
theorem lv11_262_canMeet_6 : LkV miX11_canMeet miX7_measure 262 2 6 := ⟨⟨⟨tbG_in (List.mem_append_right _ (List.mem_of_getElem? (i := 771) (by decide +kernel))) rfl, tbG_in (List.mem_append_right _ (List.mem_of_getElem? (i := 4) (by decide +kernel))) rfl, tbG_in (List.mem_append_right _ (List.mem_of_getElem? (i := 768) (by decide +kernel))) rfl⟩, ⟨by decide +kernel, by decide +kernel, by decide +kernel⟩, by decide⟩, tbG_in (List.mem_append_right _ (List.mem_of_getElem? (i := 769) (by decide +kernel))) rfl, RX7, TX7, 3, rfl, tbG_in (List.mem_append_right _ (List.mem_of_getElem? (i := 770) (by decide +kernel))) rfl⟩
theorem lv11_291_canMeet_10 : LkV miX11_canMeet miX11_canTouch 291 1 10 := ⟨⟨⟨tbG_in (List.mem_append_right _ (List.mem_of_getElem? (i := 807) (by decide +kernel))) rfl, tbG_in (List.mem_append_right _ (List.mem_of_getElem? (i := 1) (by decide +kernel))) rfl, tbG_in (List.mem_append_right _ (List.mem_of_getElem? (i := 804) (by decide +kernel))) rfl⟩, ⟨by decide +kernel, by decide +kernel, by decide +kernel⟩, by decide⟩, tbG_in (List.mem_append_right _ (List.mem_of_getElem? (i := 806) (by decide +kernel))) rfl, RX11, TX11, 13, rfl, tbG_in (List.mem_append_left _ (List.mem_of_getElem? (i := 19) (by decide +kernel))) rfl⟩
set_option maxHeartbeats 8000000 in
set_option maxRecDepth 4000 in
theorem bX11_canMeet_0 {d n : Nat} {dy : Nat → Shp} {g : Hp} {P : Pst} {r1 : Nat} {r2 : Nat} {x3 : Int} (hn : 100 ≤ n) (h : ((r1 = 0) → P (some (I_ 0)) n (W0 dy) g) ∧ ((0 < r1) → ((r2 = 0) → P (some (I_ 0)) n (W0 dy) g) ∧ ((0 < r2) → (Pt n (W0 dy) r1) ∧ (((g r1 1) ≠ 1) → P (some (I_ 0)) n (W0 dy) g) ∧ (((g r1 1) = 1) → (Pt n (W0 dy) r2) ∧ (((g r2 1) = 1) → (i3 ((g r1 7) - (g r2 7))) ∧ (i3 (ab ((g r1 7) - (g r2 7)))) ∧ (i3 x3) ∧ (((ab ((g r1 7) - (g r2 7))) ≤ x3) → Runs miX11_lastAboveBoth d [.ref r1, .ref r2] n (W0 dy) g (fun v n' S' g' => V miX11_canMeet (d + 1) 49 [(0, .ref 1), (1, .ref r1), (2, .ref r2), (3, I_ x3)] (v.toList ++ []) n' S' g' 0 0 P)) ∧ ((x3 < (ab ((g r1 7) - (g r2 7)))) → P (some (I_ 0)) n (W0 dy) g)) ∧ (((g r2 1) ≠ 1) → P (some (I_ 0)) n (W0 dy) g))))) : V miX11_canMeet (d + 1) 0 [(0, .ref 1), (1, .ref r1), (2, .ref r2), (3, I_ x3)] [] n (W0 dy) g 0 0 P := by
  refine v_aload_n 0 1 rfl rfl rfl ?_
  refine v_ifnull 1 rfl (tgt := 24) rfl (fun q1 => ?_) (fun q1 => ?_)
  · have h := h.1 q1
    refine v_iconst 12 rfl ?_
    exact v_ret (v := some (I_ 0)) 13 rfl (Nat.zero_le _) (Nat.zero_le _) (Or.inl rfl) rfl h
  · have h := h.2 q1
    refine v_aload_n 2 2 rfl rfl rfl ?_
    refine v_ifnull 3 rfl (tgt := 24) rfl (fun q2 => ?_) (fun q2 => ?_)
    · have h := h.1 q2
      refine v_iconst 12 rfl ?_
      exact v_ret (v := some (I_ 0)) 13 rfl (Nat.zero_le _) (Nat.zero_le _) (Or.inl rfl) rfl h
    · have h := h.2 q2
      refine v_aload_n 4 1 rfl rfl rfl ?_
      have c3 := h.1
      have h := h.2
      refine v_pI 5 rfl ⟨fl11_279_3, fl11_279_5, fl11_279_9⟩ c3 ⟨rfl, rfl, rfl⟩ (x := g r1 1) rfl ?_
      refine v_rng fun w4 => ?_
      have p5 : i3 (g r1 1) := rPI w4 (q := 1) c3 rfl rfl rfl rfl
      refine v_iconst 6 rfl ?_
      refine v_icmp_ne 7 rfl (tgt := 24) rfl p5 (by decide) (fun q6 => ?_) (fun q6 => ?_)
      · have h := h.1 q6
        refine v_iconst 12 rfl ?_
        exact v_ret (v := some (I_ 0)) 13 rfl (Nat.zero_le _) (Nat.zero_le _) (Or.inl rfl) rfl h
      · have h := h.2 q6
        refine v_aload_n 8 2 rfl rfl rfl ?_
        have c7 := h.1
        have h := h.2
        refine v_pI 9 rfl ⟨fl11_279_3, fl11_279_5, fl11_279_9⟩ c7 ⟨rfl, rfl, rfl⟩ (x := g r2 1) rfl ?_
        refine v_rng fun w8 => ?_
        have p9 : i3 (g r2 1) := rPI w8 (q := 1) c7 rfl rfl rfl rfl
        refine v_iconst 10 rfl ?_
        refine v_icmp_eq 11 rfl (tgt := 26) rfl p9 (by decide) (fun q10 => ?_) (fun q10 => ?_)
        · have h := h.1 q10
          refine v_aload_n 14 1 rfl rfl rfl ?_
          refine v_pI 15 rfl ⟨fl11_288_3.r, fl11_288_5.r, fl11_288_9.r⟩ c3 ⟨rfl, rfl, rfl⟩ (x := g r1 7) rfl ?_
          refine v_rng fun w11 => ?_
          have p12 : i3 (g r1 7) := rPI w11 (q := 7) c3 rfl rfl rfl rfl
          refine v_aload_n 16 2 rfl rfl rfl ?_
          refine v_pI 17 rfl ⟨fl11_288_3.r, fl11_288_5.r, fl11_288_9.r⟩ c7 ⟨rfl, rfl, rfl⟩ (x := g r2 7) rfl ?_
          refine v_rng fun w13 => ?_
          have p14 : i3 (g r2 7) := rPI w13 (q := 7) c7 rfl rfl rfl rfl
          refine v_isub 18 rfl ?_
          have c15 := h.1
          have h := h.2
          refine v_mabs (st := []) 19 rfl lm11_398_canMeet rfl (Nat.zero_le _) (Nat.zero_le _) c15 ?_
          refine v_iload_n 20 3 rfl rfl rfl ?_
          have c16 := h.1
          have h := h.2
          have c17 := h.1
          have h := h.2
          refine v_icmp_le 21 rfl (tgt := 44) rfl c16 c17 (fun q18 => ?_) (fun q18 => ?_)
          · have h := h.1 q18
            refine v_aload_n 24 1 rfl rfl rfl ?_
            refine v_aload_n 25 2 rfl rfl rfl ?_
            refine v_callS (st := []) [.ref r1, .ref r2] 26 rfl ls11_284_canMeet rfl (Nat.lt_of_lt_of_le (by decide) hn) (Nat.le_refl _) (Nat.le_refl _) ?_
            exact h
          · have h := h.2 q18
            refine v_iconst 22 rfl ?_
            exact v_ret (v := some (I_ 0)) 23 rfl (Nat.zero_le _) (Nat.zero_le _) (Or.inl rfl) rfl h
        · have h := h.2 q10
          refine v_iconst 12 rfl ?_
          exact v_ret (v := some (I_ 0)) 13 rfl (Nat.zero_le _) (Nat.zero_le _) (Or.inl rfl) rfl h
set_option maxHeartbeats 8000000 in
set_option maxRecDepth 4000 in
theorem bX11_canMeet_49 {d n : Nat} {dy : Nat → Shp} {g : Hp} {P : Pst} {r1 : Nat} {r2 : Nat} {x3 : Int} {rs0 : Nat} (hn : 100 ≤ n) (h : Runs miX7_measure d [.ref 9, .ref r1, .ref rs0] n (W0 dy) g (fun v n' S' g' => V miX11_canMeet (d + 1) 61 [(0, .ref 1), (1, .ref r1), (2, .ref r2), (3, I_ x3), (4, .ref rs0)] (v.toList ++ []) n' S' g' 0 0 P)) : V miX11_canMeet (d + 1) 49 [(0, .ref 1), (1, .ref r1), (2, .ref r2), (3, I_ x3)] [.ref rs0] n (W0 dy) g 0 0 P := by
  refine v_astore 27 [1, 2, 3, 4, 0] rfl (by decide) rfl ?_
  refine v_aload_n 28 0 rfl rfl rfl ?_
  refine v_gK 29 rfl fl11_45_10.r (al 1 rfl hn) (wk1 dy) (by decide) rfl (r := 9) (wc1_6 dy) ?_
  refine v_aload_n 30 1 rfl rfl rfl ?_
  refine v_aload 31 4 rfl rfl ?_
  refine v_callV (st := []) [.ref r1, .ref rs0] 32 rfl lv11_262_canMeet_6 (al 9 rfl hn) (wk9 dy) (by decide) rfl (Nat.le_refl _) (Nat.le_refl _) ?_
  exact h
set_option maxHeartbeats 8000000 in
set_option maxRecDepth 4000 in
theorem bX11_canMeet_61 {d n : Nat} {dy : Nat → Shp} {g : Hp} {P : Pst} {r1 : Nat} {r2 : Nat} {x3 : Int} {r4 : Nat} (hn : 100 ≤ n) (h : Runs miX7_measure d [.ref 10, .ref r2, .ref r4] n (W0 dy) g (fun v n' S' g' => V miX11_canMeet (d + 1) 71 [(0, .ref 1), (1, .ref r1), (2, .ref r2), (3, I_ x3), (4, .ref r4)] (v.toList ++ []) n' S' g' 0 0 P)) : V miX11_canMeet (d + 1) 61 [(0, .ref 1), (1, .ref r1), (2, .ref r2), (3, I_ x3), (4, .ref r4)] [] n (W0 dy) g 0 0 P := by
  refine v_aload_n 33 0 rfl rfl rfl ?_
  refine v_gK 34 rfl fl11_49_10.r (al 1 rfl hn) (wk1 dy) (by decide) rfl (r := 10) (wc1_7 dy) ?_
  refine v_aload_n 35 2 rfl rfl rfl ?_
  refine v_aload 36 4 rfl rfl ?_
  refine v_callV (st := []) [.ref r2, .ref r4] 37 rfl lv11_262_canMeet_6 (al 10 rfl hn) (wk10 dy) (by decide) rfl (Nat.le_refl _) (Nat.le_refl _) ?_
  exact h
set_option maxHeartbeats 8000000 in
set_option maxRecDepth 4000 in
theorem bX11_canMeet_71 {d n : Nat} {dy : Nat → Shp} {g : Hp} {P : Pst} {r1 : Nat} {r2 : Nat} {x3 : Int} {r4 : Nat} (hn : 100 ≤ n) (h : Runs miX11_canTouch d [.ref 1, .ref r4] n (W0 dy) g (fun v n' S' g' => V miX11_canMeet (d + 1) 77 [(0, .ref 1), (1, .ref r1), (2, .ref r2), (3, I_ x3), (4, .ref r4)] (v.toList ++ []) n' S' g' 0 0 P)) : V miX11_canMeet (d + 1) 71 [(0, .ref 1), (1, .ref r1), (2, .ref r2), (3, I_ x3), (4, .ref r4)] [] n (W0 dy) g 0 0 P := by
  refine v_aload_n 38 0 rfl rfl rfl ?_
  refine v_aload 39 4 rfl rfl ?_
  refine v_callV (st := []) [.ref r4] 40 rfl lv11_291_canMeet_10 (al 1 rfl hn) (wk1 dy) (by decide) rfl (Nat.le_refl _) (Nat.le_refl _) ?_
  exact h
set_option maxHeartbeats 8000000 in
set_option maxRecDepth 4000 in
theorem bX11_canMeet_77 {d n : Nat} {dy : Nat → Shp} {g : Hp} {P : Pst} {r1 : Nat} {r2 : Nat} {x3 : Int} {r4 : Nat} {xs0 : Int} (hn : 100 ≤ n) (h : (xs0 = 0 ∨ xs0 = 1) ∧ P (some (I_ xs0)) n (W0 dy) g) : V miX11_canMeet (d + 1) 77 [(0, .ref 1), (1, .ref r1), (2, .ref r2), (3, I_ x3), (4, .ref r4)] [I_ xs0] n (W0 dy) g 0 0 P := by
  have c1 := h.1
  have h := h.2
  exact v_ret (v := some (I_ xs0)) 41 rfl (Nat.zero_le _) (Nat.zero_le _) (rokZ c1) rfl h
theorem wX11_canMeet {d n : Nat} {dy : Nat → Shp} {g : Hp} {P : Pst} {r1 : Nat} {r2 : Nat} {x3 : Int} (hn : 100 ≤ n) (h : ((r1 = 0) → P (some (I_ 0)) n (W0 dy) g) ∧ ((0 < r1) → ((r2 = 0) → P (some (I_ 0)) n (W0 dy) g) ∧ ((0 < r2) → (Pt n (W0 dy) r1) ∧ (((g r1 1) ≠ 1) → P (some (I_ 0)) n (W0 dy) g) ∧ (((g r1 1) = 1) → (Pt n (W0 dy) r2) ∧ (((g r2 1) = 1) → (i3 ((g r1 7) - (g r2 7))) ∧ (i3 (ab ((g r1 7) - (g r2 7)))) ∧ (i3 x3) ∧ (((ab ((g r1 7) - (g r2 7))) ≤ x3) → Runs miX11_lastAboveBoth d [.ref r1, .ref r2] n (W0 dy) g (fun v n' S' g' => V miX11_canMeet (d + 1) 49 [(0, .ref 1), (1, .ref r1), (2, .ref r2), (3, I_ x3)] (v.toList ++ []) n' S' g' 0 0 P)) ∧ ((x3 < (ab ((g r1 7) - (g r2 7)))) → P (some (I_ 0)) n (W0 dy) g)) ∧ (((g r2 1) ≠ 1) → P (some (I_ 0)) n (W0 dy) g))))) : Runs miX11_canMeet (d + 1) [.ref 1, .ref r1, .ref r2, I_ x3] n (W0 dy) g P := Runs.of rfl rfl deX11_canMeet (Nat.le_of_ble_eq_true rfl) (bX11_canMeet_0 hn h)
