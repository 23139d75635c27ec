theorem lv12_274_lowest_11 : LkV miX12_lowest miX12_topped 274 1 11 := ⟨⟨⟨tbG_in (List.mem_append_right _ (List.mem_of_getElem? (i := 1501) (by decide +kernel))) rfl, tbG_in (List.mem_append_right _ (List.mem_of_getElem? (i := 9) (by decide +kernel))) rfl, tbG_in (List.mem_append_right _ (List.mem_of_getElem? (i := 1498) (by decide +kernel))) rfl⟩, ⟨by decide +kernel, by decide +kernel, by decide +kernel⟩, by decide⟩, tbG_in (List.mem_append_right _ (List.mem_of_getElem? (i := 1500) (by decide +kernel))) rfl, RX12, TX12, 58, rfl, tbG_in (List.mem_append_left _ (List.mem_of_getElem? (i := 70) (by decide +kernel))) rfl⟩
theorem lv12_277_lowest_11 : LkV miX12_lowest miX12_marks 277 1 11 := ⟨⟨⟨tbG_in (List.mem_append_right _ (List.mem_of_getElem? (i := 1505) (by decide +kernel))) rfl, tbG_in (List.mem_append_right _ (List.mem_of_getElem? (i := 9) (by decide +kernel))) rfl, tbG_in (List.mem_append_right _ (List.mem_of_getElem? (i := 1502) (by decide +kernel))) rfl⟩, ⟨by decide +kernel, by decide +kernel, by decide +kernel⟩, by decide⟩, tbG_in (List.mem_append_right _ (List.mem_of_getElem? (i := 1504) (by decide +kernel))) rfl, RX12, TX12, 58, rfl, tbG_in (List.mem_append_left _ (List.mem_of_getElem? (i := 71) (by decide +kernel))) rfl⟩
theorem lv12_231_lowest_11 : LkV miX12_lowest miX12_heightOf 231 1 11 := ⟨⟨⟨tbG_in (List.mem_append_right _ (List.mem_of_getElem? (i := 1412) (by decide +kernel))) rfl, tbG_in (List.mem_append_right _ (List.mem_of_getElem? (i := 9) (by decide +kernel))) rfl, tbG_in (List.mem_append_right _ (List.mem_of_getElem? (i := 1409) (by decide +kernel))) rfl⟩, ⟨by decide +kernel, by decide +kernel, by decide +kernel⟩, by decide⟩, tbG_in (List.mem_append_right _ (List.mem_of_getElem? (i := 1411) (by decide +kernel))) rfl, RX12, TX12, 58, rfl, tbG_in (List.mem_append_left _ (List.mem_of_getElem? (i := 57) (by decide +kernel))) rfl⟩
set_option maxHeartbeats 8000000 in
set_option maxRecDepth 4000 in
theorem bX12_lowest_0 {d n : Nat} {dy : Nat → Shp} {g : Hp} {P : Pst} {x1 : Int} (hn : 100 ≤ n) (h : Runs miX12_topped d [.ref 53, I_ x1] n (W0 dy) (up2 g 53 1 0) (fun v n' S' g' => V miX12_lowest (d + 1) 11 [(0, .ref 53), (1, I_ x1)] (v.toList ++ [.ref 53]) n' S' g' 0 0 P)) : V miX12_lowest (d + 1) 0 [(0, .ref 53), (1, I_ x1)] [] n (W0 dy) g 0 0 P := by
  refine v_aload_n 0 0 rfl rfl rfl ?_
  refine v_iconst 1 rfl ?_
  refine v_putI 2 rfl fl12_148_11 (al 53 rfl hn) (wk53 dy) (by decide) rfl (wc53_1 dy) (by decide) ?_
  refine v_aload_n 3 0 rfl rfl rfl ?_
  refine v_aload_n 4 0 rfl rfl rfl ?_
  refine v_iload_n 5 1 rfl rfl rfl ?_
  refine v_callV (st := [.ref 53]) [I_ x1] 6 rfl lv12_274_lowest_11 (al 53 rfl hn) (wk53 dy) (by decide) rfl (Nat.le_refl _) (Nat.le_refl _) ?_
  exact h
set_option maxHeartbeats 8000000 in
set_option maxRecDepth 4000 in
theorem bX12_lowest_11 {d n : Nat} {dy : Nat → Shp} {g : Hp} {P : Pst} {x1 : Int} {xs1 : Int} (hn : 100 ≤ n) (h : (i3 xs1) ∧ ((xs1 ≤ 0) → Runs miX12_marks d [.ref 53, I_ x1] n (W0 dy) (up2 g 53 0 xs1) (fun v n' S' g' => V miX12_lowest (d + 1) 28 [(0, .ref 53), (1, I_ x1)] (v.toList ++ []) n' S' g' 0 0 P)) ∧ ((0 < xs1) → P (some (I_ ((-1)))) n (W0 dy) (up2 g 53 0 xs1))) : V miX12_lowest (d + 1) 11 [(0, .ref 53), (1, I_ x1)] [I_ xs1, .ref 53] n (W0 dy) g 0 0 P := by
  have c1 := h.1
  have h := h.2
  refine v_putI 7 rfl fl12_152_11 (al 53 rfl hn) (wk53 dy) (by decide) rfl (wc53_0 dy) c1 ?_
  refine v_aload_n 8 0 rfl rfl rfl ?_
  refine v_gI 9 rfl fl12_152_11.r (al 53 rfl hn) (wk53 dy) (by decide) rfl (wc53_0 dy) (x := xs1) rfl ?_
  refine v_rng fun w2 => ?_
  have r3 : i3 (xs1) := rI w2 (q := 0) (al 53 rfl hn) (wk53 dy) rfl rfl
  refine v_if_le 10 rfl (tgt := 23) rfl r3 (fun q4 => ?_) (fun q4 => ?_)
  · have h := h.1 q4
    refine v_aload_n 13 0 rfl rfl rfl ?_
    refine v_iload_n 14 1 rfl rfl rfl ?_
    refine v_callV (st := []) [I_ x1] 15 rfl lv12_277_lowest_11 (al 53 rfl hn) (wk53 dy) (by decide) rfl (Nat.le_refl _) (Nat.le_refl _) ?_
    exact h
  · have h := h.2 q4
    refine v_iconst 11 rfl ?_
    exact v_ret (v := some (I_ ((-1)))) 12 rfl (Nat.zero_le _) (Nat.zero_le _) trivial rfl h
set_option maxHeartbeats 8000000 in
set_option maxRecDepth 4000 in
theorem bX12_lowest_28 {d n : Nat} {dy : Nat → Shp} {g : Hp} {P : Pst} {x1 : Int} (hn : 100 ≤ n) (h : V miX12_lowest (d + 1) 32 [(0, .ref 53), (1, I_ x1), (2, I_ ((-1))), (3, I_ 0)] [] n (W0 dy) g 0 0 P) : V miX12_lowest (d + 1) 28 [(0, .ref 53), (1, I_ x1)] [] n (W0 dy) g 0 0 P := by
  refine v_iconst 16 rfl ?_
  refine v_istore_n 17 [1, 2, 0] rfl rfl (by decide) rfl ?_
  refine v_iconst 18 rfl ?_
  refine v_istore_n 19 [1, 2, 3, 0] rfl rfl (by decide) rfl ?_
  exact h
set_option maxHeartbeats 8000000 in
set_option maxRecDepth 4000 in
theorem bX12_lowest_32 {d n : Nat} {dy : Nat → Shp} {g : Hp} {P : Pst} {x1 : Int} {x2 : Int} {x3 : Int} (hn : 100 ≤ n) (h : (i3 x3) ∧ (((g 53 5) ≤ x3) → P (some (I_ x2)) n (W0 dy) g) ∧ ((x3 < (g 53 5)) → (0 ≤ x3 ∧ x3 < 60) ∧ (((g 75 x3.toNat) = 0) → V miX12_lowest (d + 1) 68 [(0, .ref 53), (1, I_ x1), (2, I_ x2), (3, I_ x3)] [] n (W0 dy) g 0 0 P) ∧ (((g 75 x3.toNat) ≠ 0) → (i3 x2) ∧ ((x2 < 0) → V miX12_lowest (d + 1) 66 [(0, .ref 53), (1, I_ x1), (2, I_ x2), (3, I_ x3)] [] n (W0 dy) g 0 0 P) ∧ ((0 ≤ x2) → Runs miX12_heightOf d [.ref 53, I_ x3] n (W0 dy) g (fun v n' S' g' => V miX12_lowest (d + 1) 58 [(0, .ref 53), (1, I_ x1), (2, I_ x2), (3, I_ x3)] (v.toList ++ []) n' S' g' 0 0 P))))) : V miX12_lowest (d + 1) 32 [(0, .ref 53), (1, I_ x1), (2, I_ x2), (3, I_ x3)] [] n (W0 dy) g 0 0 P := by
  refine v_iload_n 20 3 rfl rfl rfl ?_
  refine v_aload_n 21 0 rfl rfl rfl ?_
  refine v_gI 22 rfl fl12_169_11.r (al 53 rfl hn) (wk53 dy) (by decide) rfl (wc53_5 dy) (x := g 53 5) rfl ?_
  refine v_rng fun w1 => ?_
  have r2 : i3 (g 53 5) := rI w1 (q := 5) (al 53 rfl hn) (wk53 dy) rfl rfl
  have c3 := h.1
  have h := h.2
  refine v_icmp_ge 23 rfl (tgt := 74) rfl c3 r2 (fun q10 => ?_) (fun q10 => ?_)
  · have h := h.1 q10
    refine v_iload_n 42 2 rfl rfl rfl ?_
    exact v_ret (v := some (I_ x2)) 43 rfl (Nat.zero_le _) (Nat.zero_le _) trivial rfl h
  · have h := h.2 q10
    refine v_aload_n 24 0 rfl rfl rfl ?_
    refine v_gK 25 rfl fl12_74_11.r (al 53 rfl hn) (wk53 dy) (by decide) rfl (r := 75) (wc53_24 dy) ?_
    refine v_iload_n 26 3 rfl rfl rfl ?_
    have c4 := h.1
    have h := h.2
    refine v_za (N := 60) 27 rfl (al 75 rfl hn) (wk75 dy) (wn75 dy) (by decide) c4 (y := g 75 x3.toNat) rfl ?_
    refine v_rng fun w5 => ?_
    have r6 : i3 (g 75 x3.toNat) := rI w5 (q := x3.toNat) (al 75 rfl hn) (wk75 dy) rfl rfl
    refine v_if_eq 28 rfl (tgt := 68) rfl r6 (fun q9 => ?_) (fun q9 => ?_)
    · have h := h.1 q9
      exact h
    · have h := h.2 q9
      refine v_iload_n 29 2 rfl rfl rfl ?_
      have c7 := h.1
      have h := h.2
      refine v_if_lt 30 rfl (tgt := 66) rfl c7 (fun q8 => ?_) (fun q8 => ?_)
      · have h := h.1 q8
        exact h
      · have h := h.2 q8
        refine v_aload_n 31 0 rfl rfl rfl ?_
        refine v_iload_n 32 3 rfl rfl rfl ?_
        refine v_callV (st := []) [I_ x3] 33 rfl lv12_231_lowest_11 (al 53 rfl hn) (wk53 dy) (by decide) rfl (Nat.le_refl _) (Nat.le_refl _) ?_
        exact h
set_option maxHeartbeats 8000000 in
set_option maxRecDepth 4000 in
theorem bX12_lowest_58 {d n : Nat} {dy : Nat → Shp} {g : Hp} {P : Pst} {x1 : Int} {x2 : Int} {x3 : Int} {xs0 : Int} (hn : 100 ≤ n) (h : Runs miX12_heightOf d [.ref 53, I_ x2] n (W0 dy) g (fun v n' S' g' => V miX12_lowest (d + 1) 63 [(0, .ref 53), (1, I_ x1), (2, I_ x2), (3, I_ x3)] (v.toList ++ [I_ xs0]) n' S' g' 0 0 P)) : V miX12_lowest (d + 1) 58 [(0, .ref 53), (1, I_ x1), (2, I_ x2), (3, I_ x3)] [I_ xs0] n (W0 dy) g 0 0 P := by
  refine v_aload_n 34 0 rfl rfl rfl ?_
  refine v_iload_n 35 2 rfl rfl rfl ?_
  refine v_callV (st := [I_ xs0]) [I_ x2] 36 rfl lv12_231_lowest_11 (al 53 rfl hn) (wk53 dy) (by decide) rfl (Nat.le_refl _) (Nat.le_refl _) ?_
  exact h
set_option maxHeartbeats 8000000 in
set_option maxRecDepth 4000 in
theorem bX12_lowest_63 {d n : Nat} {dy : Nat → Shp} {g : Hp} {P : Pst} {x1 : Int} {x2 : Int} {x3 : Int} {xs0 : Int} {xs1 : Int} (hn : 100 ≤ n) (h : (i3 xs0) ∧ (i3 xs1) ∧ ((xs0 ≤ xs1) → V miX12_lowest (d + 1) 68 [(0, .ref 53), (1, I_ x1), (2, I_ x2), (3, I_ x3)] [] n (W0 dy) g 0 0 P) ∧ ((xs1 < xs0) → V miX12_lowest (d + 1) 66 [(0, .ref 53), (1, I_ x1), (2, I_ x2), (3, I_ x3)] [] n (W0 dy) g 0 0 P)) : V miX12_lowest (d + 1) 63 [(0, .ref 53), (1, I_ x1), (2, I_ x2), (3, I_ x3)] [I_ xs1, I_ xs0] n (W0 dy) g 0 0 P := by
  have c1 := h.1
  have h := h.2
  have c2 := h.1
  have h := h.2
  refine v_icmp_le 37 rfl (tgt := 68) rfl c1 c2 (fun q3 => ?_) (fun q3 => ?_)
  · have h := h.1 q3
    exact h
  · have h := h.2 q3
    exact h
set_option maxHeartbeats 8000000 in
set_option maxRecDepth 4000 in
theorem bX12_lowest_66 {d n : Nat} {dy : Nat → Shp} {g : Hp} {P : Pst} {x1 : Int} {x2 : Int} {x3 : Int} (hn : 100 ≤ n) (h : V miX12_lowest (d + 1) 68 [(0, .ref 53), (1, I_ x1), (2, I_ x3), (3, I_ x3)] [] n (W0 dy) g 0 0 P) : V miX12_lowest (d + 1) 66 [(0, .ref 53), (1, I_ x1), (2, I_ x2), (3, I_ x3)] [] n (W0 dy) g 0 0 P := by
  refine v_iload_n 38 3 rfl rfl rfl ?_
  refine v_istore_n 39 [1, 2, 0, 3] rfl rfl (by decide) rfl ?_
  exact h
set_option maxHeartbeats 8000000 in
set_option maxRecDepth 4000 in
theorem bX12_lowest_68 {d n : Nat} {dy : Nat → Shp} {g : Hp} {P : Pst} {x1 : Int} {x2 : Int} {x3 : Int} (hn : 100 ≤ n) (h : V miX12_lowest (d + 1) 32 [(0, .ref 53), (1, I_ x1), (2, I_ x2), (3, I_ (x3 + 1))] [] n (W0 dy) g 0 0 P) : V miX12_lowest (d + 1) 68 [(0, .ref 53), (1, I_ x1), (2, I_ x2), (3, I_ x3)] [] n (W0 dy) g 0 0 P := by
  refine v_iinc 40 3 [1, 2, 3, 0] rfl rfl (by decide) rfl ?_
  refine v_goto 41 rfl (tgt := 32) rfl ?_
  exact h
theorem lv12_243_lastAbove_11 : LkV miX12_lastAbove miX12_isAbove 243 2 11 := ⟨⟨⟨tbG_in (List.mem_append_right _ (List.mem_of_getElem? (i := 1436) (by decide +kernel))) rfl, tbG_in (List.mem_append_right _ (List.mem_of_getElem? (i := 9) (by decide +kernel))) rfl, tbG_in (List.mem_append_right _ (List.mem_of_getElem? (i := 1433) (by decide +kernel))) rfl⟩, ⟨by decide +kernel, by decide +kernel, by decide +kernel⟩, by decide⟩, tbG_in (List.mem_append_right _ (List.mem_of_getElem? (i := 1435) (by decide +kernel))) rfl, RX12, TX12, 58, rfl, tbG_in (List.mem_append_left _ (List.mem_of_getElem? (i := 61) (by decide +kernel))) rfl⟩
set_option maxHeartbeats 8000000 in
set_option maxRecDepth 4000 in
theorem bX12_lastAbove_0 {d n : Nat} {dy : Nat → Shp} {g : Hp} {P : Pst} {x1 : Int} {x2 : Int} (hn : 100 ≤ n) (h : (0 ≤ x1 ∧ x1 < 60) ∧ V miX12_lastAbove (d + 1) 7 [(0, .ref 53), (1, I_ x1), (2, I_ x2), (3, I_ (g 60 x1.toNat))] [] n (W0 dy) g 0 0 P) : V miX12_lastAbove (d + 1) 0 [(0, .ref 53), (1, I_ x1), (2, I_ x2)] [] n (W0 dy) g 0 0 P := by
  refine v_aload_n 0 0 rfl rfl rfl ?_
  refine v_gK 1 rfl fl12_29_11.r (al 53 rfl hn) (wk53 dy) (by decide) rfl (r := 60) (wc53_9 dy) ?_
  refine v_iload_n 2 1 rfl rfl rfl ?_
  have c1 := h.1
  have h := h.2
  refine v_ia (N := 60) 3 rfl (al 60 rfl hn) (wk60 dy) (wn60 dy) (by decide) c1 (y := g 60 x1.toNat) rfl ?_
  refine v_rng fun w2 => ?_
  have r3 : i3 (g 60 x1.toNat) := rI w2 (q := x1.toNat) (al 60 rfl hn) (wk60 dy) rfl rfl
  refine v_istore_n 4 [1, 2, 3, 0] rfl rfl (by decide) rfl ?_
  exact h
set_option maxHeartbeats 8000000 in
set_option maxRecDepth 4000 in
theorem bX12_lastAbove_7 {d n : Nat} {dy : Nat → Shp} {g : Hp} {P : Pst} {x1 : Int} {x2 : Int} {x3 : Int} (hn : 100 ≤ n) (h : Runs miX12_isAbove d [.ref 53, I_ x3, I_ x2] n (W0 dy) g (fun v n' S' g' => V miX12_lastAbove (d + 1) 13 [(0, .ref 53), (1, I_ x1), (2, I_ x2), (3, I_ x3)] (v.toList ++ []) n' S' g' 0 0 P)) : V miX12_lastAbove (d + 1) 7 [(0, .ref 53), (1, I_ x1), (2, I_ x2), (3, I_ x3)] [] n (W0 dy) g 0 0 P := by
  refine v_aload_n 5 0 rfl rfl rfl ?_
  refine v_iload_n 6 3 rfl rfl rfl ?_
  refine v_iload_n 7 2 rfl rfl rfl ?_
  refine v_callV (st := []) [I_ x3, I_ x2] 8 rfl lv12_243_lastAbove_11 (al 53 rfl hn) (wk53 dy) (by decide) rfl (Nat.le_refl _) (Nat.le_refl _) ?_
  exact h
set_option maxHeartbeats 8000000 in
set_option maxRecDepth 4000 in
theorem bX12_lastAbove_13 {d n : Nat} {dy : Nat → Shp} {g : Hp} {P : Pst} {x1 : Int} {x2 : Int} {x3 : Int} {xs0 : Int} (hn : 100 ≤ n) (h : (i3 xs0) ∧ ((xs0 ≠ 0) → P (some (I_ x3)) n (W0 dy) g) ∧ ((xs0 = 0) → (0 ≤ x3 ∧ x3 < 60) ∧ V miX12_lastAbove (d + 1) 7 [(0, .ref 53), (1, I_ x1), (2, I_ x2), (3, I_ (g 60 x3.toNat))] [] n (W0 dy) g 0 0 P)) : V miX12_lastAbove (d + 1) 13 [(0, .ref 53), (1, I_ x1), (2, I_ x2), (3, I_ x3)] [I_ xs0] n (W0 dy) g 0 0 P := by
  have c1 := h.1
  have h := h.2
  refine v_if_ne 9 rfl (tgt := 26) rfl c1 (fun q5 => ?_) (fun q5 => ?_)
  · have h := h.1 q5
    refine v_iload_n 16 3 rfl rfl rfl ?_
    exact v_ret (v := some (I_ x3)) 17 rfl (Nat.zero_le _) (Nat.zero_le _) trivial rfl h
  · have h := h.2 q5
    refine v_aload_n 10 0 rfl rfl rfl ?_
    refine v_gK 11 rfl fl12_29_11.r (al 53 rfl hn) (wk53 dy) (by decide) rfl (r := 60) (wc53_9 dy) ?_
    refine v_iload_n 12 3 rfl rfl rfl ?_
    have c2 := h.1
    have h := h.2
    refine v_ia (N := 60) 13 rfl (al 60 rfl hn) (wk60 dy) (wn60 dy) (by decide) c2 (y := g 60 x3.toNat) rfl ?_
    refine v_rng fun w3 => ?_
    have r4 : i3 (g 60 x3.toNat) := rI w3 (q := x3.toNat) (al 60 rfl hn) (wk60 dy) rfl rfl
    refine v_istore_n 14 [1, 2, 3, 0] rfl rfl (by decide) rfl ?_
    refine v_goto 15 rfl (tgt := 7) rfl ?_
    exact h
theorem lv12_310_near_11 : LkV miX12_near miX12_lastAbove 310 2 11 := ⟨⟨⟨tbG_in (List.mem_append_right _ (List.mem_of_getElem? (i := 1557) (by decide +kernel))) rfl, tbG_in (List.mem_append_right _ (List.mem_of_getElem? (i := 9) (by decide +kernel))) rfl, tbG_in (List.mem_append_right _ (List.mem_of_getElem? (i := 1554) (by decide +kernel))) rfl⟩, ⟨by decide +kernel, by decide +kernel, by decide +kernel⟩, by decide⟩, tbG_in (List.mem_append_right _ (List.mem_of_getElem? (i := 1556) (by decide +kernel))) rfl, RX12, TX12, 58, rfl, tbG_in (List.mem_append_left _ (List.mem_of_getElem? (i := 79) (by decide +kernel))) rfl⟩
theorem lv12_303_near_11 : LkV miX12_near miX12_arms 303 3 11 := ⟨⟨⟨tbG_in (List.mem_append_right _ (List.mem_of_getElem? (i := 1529) (by decide +kernel))) rfl, tbG_in (List.mem_append_right _ (List.mem_of_getElem? (i := 9) (by decide +kernel))) rfl, tbG_in (List.mem_append_right _ (List.mem_of_getElem? (i := 1526) (by decide +kernel))) rfl⟩, ⟨by decide +kernel, by decide +kernel, by decide +kernel⟩, by decide⟩, tbG_in (List.mem_append_right _ (List.mem_of_getElem? (i := 1528) (by decide +kernel))) rfl, RX12, TX12, 58, rfl, tbG_in (List.mem_append_left _ (List.mem_of_getElem? (i := 74) (by decide +kernel))) rfl⟩
theorem lv12_307_near_11 : LkV miX12_near miX12_armsLeast 307 0 11 := ⟨⟨⟨tbG_in (List.mem_append_right _ (List.mem_of_getElem? (i := 1541) (by decide +kernel))) rfl, tbG_in (List.mem_append_right _ (List.mem_of_getElem? (i := 9) (by decide +kernel))) rfl, tbG_in (List.mem_append_right _ (List.mem_of_getElem? (i := 1538) (by decide +kernel))) rfl⟩, ⟨by decide +kernel, by decide +kernel, by decide +kernel⟩, by decide⟩, tbG_in (List.mem_append_right _ (List.mem_of_getElem? (i := 1540) (by decide +kernel))) rfl, RX12, TX12, 58, rfl, tbG_in (List.mem_append_left _ (List.mem_of_getElem? (i := 77) (by decide +kernel))) rfl⟩
set_option maxHeartbeats 8000000 in
set_option maxRecDepth 4000 in
theorem bX12_near_0 {d n : Nat} {dy : Nat → Shp} {g : Hp} {P : Pst} {x1 : Int} {x2 : Int} (hn : 100 ≤ n) (h : Runs miX12_lastAbove d [.ref 53, I_ x1, I_ x2] n (W0 dy) g (fun v n' S' g' => V miX12_near (d + 1) 6 [(0, .ref 53), (1, I_ x1), (2, I_ x2)] (v.toList ++ []) n' S' g' 0 0 P)) : V miX12_near (d + 1) 0 [(0, .ref 53), (1, I_ x1), (2, I_ x2)] [] n (W0 dy) g 0 0 P := by
  refine v_aload_n 0 0 rfl rfl rfl ?_
  refine v_iload_n 1 1 rfl rfl rfl ?_
  refine v_iload_n 2 2 rfl rfl rfl ?_
  refine v_callV (st := []) [I_ x1, I_ x2] 3 rfl lv12_310_near_11 (al 53 rfl hn) (wk53 dy) (by decide) rfl (Nat.le_refl _) (Nat.le_refl _) ?_
  exact h
set_option maxHeartbeats 8000000 in
set_option maxRecDepth 4000 in
theorem bX12_near_6 {d n : Nat} {dy : Nat → Shp} {g : Hp} {P : Pst} {x1 : Int} {x2 : Int} {xs0 : Int} (hn : 100 ≤ n) (h : Runs miX12_arms d [.ref 53, I_ x1, I_ xs0, I_ 0] n (W0 dy) g (fun v n' S' g' => V miX12_near (d + 1) 14 [(0, .ref 53), (1, I_ x1), (2, I_ x2), (3, I_ xs0)] (v.toList ++ []) n' S' g' 0 0 P)) : V miX12_near (d + 1) 6 [(0, .ref 53), (1, I_ x1), (2, I_ x2)] [I_ xs0] n (W0 dy) g 0 0 P := by
  refine v_istore_n 4 [1, 2, 3, 0] rfl rfl (by decide) rfl ?_
  refine v_aload_n 5 0 rfl rfl rfl ?_
  refine v_iload_n 6 1 rfl rfl rfl ?_
  refine v_iload_n 7 3 rfl rfl rfl ?_
  refine v_iconst 8 rfl ?_
  refine v_callV (st := []) [I_ x1, I_ xs0, I_ 0] 9 rfl lv12_303_near_11 (al 53 rfl hn) (wk53 dy) (by decide) rfl (Nat.le_refl _) (Nat.le_refl _) ?_
  exact h
set_option maxHeartbeats 8000000 in
set_option maxRecDepth 4000 in
theorem bX12_near_14 {d n : Nat} {dy : Nat → Shp} {g : Hp} {P : Pst} {x1 : Int} {x2 : Int} {x3 : Int} (hn : 100 ≤ n) (h : Runs miX12_armsLeast d [.ref 53] n (W0 dy) g (fun v n' S' g' => V miX12_near (d + 1) 24 [(0, .ref 53), (1, I_ x1), (2, I_ x2), (3, I_ x3), (4, I_ (g 53 32))] (v.toList ++ []) n' S' g' 0 0 P)) : V miX12_near (d + 1) 14 [(0, .ref 53), (1, I_ x1), (2, I_ x2), (3, I_ x3)] [] n (W0 dy) g 0 0 P := by
  refine v_aload_n 10 0 rfl rfl rfl ?_
  refine v_gI 11 rfl fl12_287_11.r (al 53 rfl hn) (wk53 dy) (by decide) rfl (wc53_32 dy) (x := g 53 32) rfl ?_
  refine v_rng fun w1 => ?_
  have r2 : i3 (g 53 32) := rI w1 (q := 32) (al 53 rfl hn) (wk53 dy) rfl rfl
  refine v_istore 12 [1, 2, 3, 4, 0] rfl (by decide) rfl ?_
  refine v_aload_n 13 0 rfl rfl rfl ?_
  refine v_callV (st := []) [] 14 rfl lv12_307_near_11 (al 53 rfl hn) (wk53 dy) (by decide) rfl (Nat.le_refl _) (Nat.le_refl _) ?_
  exact h
set_option maxHeartbeats 8000000 in
set_option maxRecDepth 4000 in
theorem bX12_near_24 {d n : Nat} {dy : Nat → Shp} {g : Hp} {P : Pst} {x1 : Int} {x2 : Int} {x3 : Int} {x4 : Int} {xs0 : Int} (hn : 100 ≤ n) (h : Runs miX12_arms d [.ref 53, I_ x2, I_ x3, I_ 0] n (W0 dy) g (fun v n' S' g' => V miX12_near (d + 1) 39 [(0, .ref 53), (1, I_ x1), (2, I_ x2), (3, I_ x3), (4, I_ x4), (5, I_ xs0), (6, I_ (g 53 33))] (v.toList ++ []) n' S' g' 0 0 P)) : V miX12_near (d + 1) 24 [(0, .ref 53), (1, I_ x1), (2, I_ x2), (3, I_ x3), (4, I_ x4)] [I_ xs0] n (W0 dy) g 0 0 P := by
  refine v_istore 15 [1, 2, 3, 4, 5, 0] rfl (by decide) rfl ?_
  refine v_aload_n 16 0 rfl rfl rfl ?_
  refine v_gI 17 rfl fl12_291_11.r (al 53 rfl hn) (wk53 dy) (by decide) rfl (wc53_33 dy) (x := g 53 33) rfl ?_
  refine v_rng fun w1 => ?_
  have r2 : i3 (g 53 33) := rI w1 (q := 33) (al 53 rfl hn) (wk53 dy) rfl rfl
  refine v_istore 18 [1, 2, 3, 4, 5, 6, 0] rfl (by decide) rfl ?_
  refine v_aload_n 19 0 rfl rfl rfl ?_
  refine v_iload_n 20 2 rfl rfl rfl ?_
  refine v_iload_n 21 3 rfl rfl rfl ?_
  refine v_iconst 22 rfl ?_
  refine v_callV (st := []) [I_ x2, I_ x3, I_ 0] 23 rfl lv12_303_near_11 (al 53 rfl hn) (wk53 dy) (by decide) rfl (Nat.le_refl _) (Nat.le_refl _) ?_
  exact h
set_option maxHeartbeats 8000000 in
set_option maxRecDepth 4000 in
theorem bX12_near_39 {d n : Nat} {dy : Nat → Shp} {g : Hp} {P : Pst} {x1 : Int} {x2 : Int} {x3 : Int} {x4 : Int} {x5 : Int} {x6 : Int} (hn : 100 ≤ n) (h : (i3 x4) ∧ ((x4 = 0) → V miX12_near (d + 1) 51 [(0, .ref 53), (1, I_ x1), (2, I_ x2), (3, I_ x3), (4, I_ x4), (5, I_ x5), (6, I_ x6)] [] n (W0 dy) g 0 0 P) ∧ ((x4 ≠ 0) → (((g 53 32) ≠ 0) → Runs miX12_armsLeast d [.ref 53] n (W0 dy) g (fun v n' S' g' => V miX12_near (d + 1) 57 [(0, .ref 53), (1, I_ x1), (2, I_ x2), (3, I_ x3), (4, I_ x4), (5, I_ x5), (6, I_ x6)] (v.toList ++ []) n' S' g' 0 0 P)) ∧ (((g 53 32) = 0) → V miX12_near (d + 1) 51 [(0, .ref 53), (1, I_ x1), (2, I_ x2), (3, I_ x3), (4, I_ x4), (5, I_ x5), (6, I_ x6)] [] n (W0 dy) g 0 0 P))) : V miX12_near (d + 1) 39 [(0, .ref 53), (1, I_ x1), (2, I_ x2), (3, I_ x3), (4, I_ x4), (5, I_ x5), (6, I_ x6)] [] n (W0 dy) g 0 0 P := by
  refine v_iload 24 4 rfl rfl ?_
  have c1 := h.1
  have h := h.2
  refine v_if_eq 25 rfl (tgt := 51) rfl c1 (fun q5 => ?_) (fun q5 => ?_)
  · have h := h.1 q5
    exact h
  · have h := h.2 q5
    refine v_aload_n 26 0 rfl rfl rfl ?_
    refine v_gI 27 rfl fl12_287_11.r (al 53 rfl hn) (wk53 dy) (by decide) rfl (wc53_32 dy) (x := g 53 32) rfl ?_
    refine v_rng fun w2 => ?_
    have r3 : i3 (g 53 32) := rI w2 (q := 32) (al 53 rfl hn) (wk53 dy) rfl rfl
    refine v_if_ne 28 rfl (tgt := 53) rfl r3 (fun q4 => ?_) (fun q4 => ?_)
    · have h := h.1 q4
      refine v_aload_n 31 0 rfl rfl rfl ?_
      refine v_callV (st := []) [] 32 rfl lv12_307_near_11 (al 53 rfl hn) (wk53 dy) (by decide) rfl (Nat.le_refl _) (Nat.le_refl _) ?_
      exact h
    · have h := h.2 q4
      exact h
set_option maxHeartbeats 8000000 in
set_option maxRecDepth 4000 in
theorem bX12_near_51 {d n : Nat} {dy : Nat → Shp} {g : Hp} {P : Pst} {x1 : Int} {x2 : Int} {x3 : Int} {x4 : Int} {x5 : Int} {x6 : Int} (hn : 100 ≤ n) (h : P (some (I_ ((-1)))) n (W0 dy) g) : V miX12_near (d + 1) 51 [(0, .ref 53), (1, I_ x1), (2, I_ x2), (3, I_ x3), (4, I_ x4), (5, I_ x5), (6, I_ x6)] [] n (W0 dy) g 0 0 P := by
  refine v_iconst 29 rfl ?_
  exact v_ret (v := some (I_ ((-1)))) 30 rfl (Nat.zero_le _) (Nat.zero_le _) trivial rfl h
set_option maxHeartbeats 8000000 in
set_option maxRecDepth 4000 in
theorem bX12_near_57 {d n : Nat} {dy : Nat → Shp} {g : Hp} {P : Pst} {x1 : Int} {x2 : Int} {x3 : Int} {x4 : Int} {x5 : Int} {x6 : Int} {xs0 : Int} (hn : 100 ≤ n) (h : (0 ≤ x3 ∧ x3 < 60) ∧ (i3 (x6 + (g 53 33))) ∧ (((x6 + (g 53 33)) < (g 59 x3.toNat)) → V miX12_near (d + 1) 107 [(0, .ref 53), (1, I_ x1), (2, I_ x2), (3, I_ x3), (4, I_ x4), (5, I_ x5), (6, I_ x6), (7, I_ xs0), (8, I_ (g 53 33)), (9, I_ (g 59 x3.toNat))] [] n (W0 dy) g 0 0 P) ∧ (((g 59 x3.toNat) ≤ (x6 + (g 53 33))) → (i3 (x5 - (g 53 33))) ∧ (((g 59 x3.toNat) < (x5 - (g 53 33))) → V miX12_near (d + 1) 107 [(0, .ref 53), (1, I_ x1), (2, I_ x2), (3, I_ x3), (4, I_ x4), (5, I_ x5), (6, I_ x6), (7, I_ xs0), (8, I_ (g 53 33)), (9, I_ (g 59 x3.toNat))] [] n (W0 dy) g 0 0 P) ∧ (((x5 - (g 53 33)) ≤ (g 59 x3.toNat)) → (i3 (xs0 - x6)) ∧ (((g 59 x3.toNat) < (xs0 - x6)) → V miX12_near (d + 1) 107 [(0, .ref 53), (1, I_ x1), (2, I_ x2), (3, I_ x3), (4, I_ x4), (5, I_ x5), (6, I_ x6), (7, I_ xs0), (8, I_ (g 53 33)), (9, I_ (g 59 x3.toNat))] [] n (W0 dy) g 0 0 P) ∧ (((xs0 - x6) ≤ (g 59 x3.toNat)) → V miX12_near (d + 1) 108 [(0, .ref 53), (1, I_ x1), (2, I_ x2), (3, I_ x3), (4, I_ x4), (5, I_ x5), (6, I_ x6), (7, I_ xs0), (8, I_ (g 53 33)), (9, I_ (g 59 x3.toNat))] [I_ 1] n (W0 dy) g 0 0 P)))) : V miX12_near (d + 1) 57 [(0, .ref 53), (1, I_ x1), (2, I_ x2), (3, I_ x3), (4, I_ x4), (5, I_ x5), (6, I_ x6)] [I_ xs0] n (W0 dy) g 0 0 P := by
  refine v_istore 33 [1, 2, 3, 4, 5, 6, 7, 0] rfl (by decide) rfl ?_
  refine v_aload_n 34 0 rfl rfl rfl ?_
  refine v_gI 35 rfl fl12_291_11.r (al 53 rfl hn) (wk53 dy) (by decide) rfl (wc53_33 dy) (x := g 53 33) rfl ?_
  refine v_rng fun w1 => ?_
  have r2 : i3 (g 53 33) := rI w1 (q := 33) (al 53 rfl hn) (wk53 dy) rfl rfl
  refine v_istore 36 [1, 2, 3, 4, 5, 6, 7, 8, 0] rfl (by decide) rfl ?_
  refine v_aload_n 37 0 rfl rfl rfl ?_
  refine v_gK 38 rfl fl12_26_11.r (al 53 rfl hn) (wk53 dy) (by decide) rfl (r := 59) (wc53_8 dy) ?_
  refine v_iload_n 39 3 rfl rfl rfl ?_
  have c3 := h.1
  have h := h.2
  refine v_ia (N := 60) 40 rfl (al 59 rfl hn) (wk59 dy) (wn59 dy) (by decide) c3 (y := g 59 x3.toNat) rfl ?_
  refine v_rng fun w4 => ?_
  have r5 : i3 (g 59 x3.toNat) := rI w4 (q := x3.toNat) (al 59 rfl hn) (wk59 dy) rfl rfl
  refine v_istore 41 [1, 2, 3, 4, 5, 6, 7, 8, 9, 0] rfl (by decide) rfl ?_
  refine v_iload 42 6 rfl rfl ?_
  refine v_iload 43 8 rfl rfl ?_
  refine v_iadd 44 rfl ?_
  refine v_iload 45 9 rfl rfl ?_
  have c6 := h.1
  have h := h.2
  refine v_icmp_lt 46 rfl (tgt := 107) rfl c6 r5 (fun q11 => ?_) (fun q11 => ?_)
  · have h := h.1 q11
    exact h
  · have h := h.2 q11
    refine v_iload 47 5 rfl rfl ?_
    refine v_iload 48 8 rfl rfl ?_
    refine v_isub 49 rfl ?_
    refine v_iload 50 9 rfl rfl ?_
    have c7 := h.1
    have h := h.2
    refine v_icmp_gt 51 rfl (tgt := 107) rfl c7 r5 (fun q10 => ?_) (fun q10 => ?_)
    · have h := h.1 q10
      exact h
    · have h := h.2 q10
      refine v_iload 52 7 rfl rfl ?_
      refine v_iload 53 6 rfl rfl ?_
      refine v_isub 54 rfl ?_
      refine v_iload 55 9 rfl rfl ?_
      have c8 := h.1
      have h := h.2
      refine v_icmp_gt 56 rfl (tgt := 107) rfl c8 r5 (fun q9 => ?_) (fun q9 => ?_)
      · have h := h.1 q9
        exact h
      · have h := h.2 q9
        refine v_iconst 57 rfl ?_
        refine v_goto 58 rfl (tgt := 108) rfl ?_
        exact h
set_option maxHeartbeats 8000000 in
set_option maxRecDepth 4000 in
theorem bX12_near_107 {d n : Nat} {dy : Nat → Shp} {g : Hp} {P : Pst} {x1 : Int} {x2 : Int} {x3 : Int} {x4 : Int} {x5 : Int} {x6 : Int} {x7 : Int} {x8 : Int} {x9 : Int} (hn : 100 ≤ n) (h : V miX12_near (d + 1) 108 [(0, .ref 53), (1, I_ x1), (2, I_ x2), (3, I_ x3), (4, I_ x4), (5, I_ x5), (6, I_ x6), (7, I_ x7), (8, I_ x8), (9, I_ x9)] [I_ 0] n (W0 dy) g 0 0 P) : V miX12_near (d + 1) 107 [(0, .ref 53), (1, I_ x1), (2, I_ x2), (3, I_ x3), (4, I_ x4), (5, I_ x5), (6, I_ x6), (7, I_ x7), (8, I_ x8), (9, I_ x9)] [] n (W0 dy) g 0 0 P := by
  refine v_iconst 59 rfl ?_
  exact h
set_option maxHeartbeats 8000000 in
set_option maxRecDepth 4000 in
theorem bX12_near_108 {d n : Nat} {dy : Nat → Shp} {g : Hp} {P : Pst} {x1 : Int} {x2 : Int} {x3 : Int} {x4 : Int} {x5 : Int} {x6 : Int} {x7 : Int} {x8 : Int} {x9 : Int} {xs0 : Int} (hn : 100 ≤ n) (h : P (some (I_ xs0)) n (W0 dy) g) : V miX12_near (d + 1) 108 [(0, .ref 53), (1, I_ x1), (2, I_ x2), (3, I_ x3), (4, I_ x4), (5, I_ x5), (6, I_ x6), (7, I_ x7), (8, I_ x8), (9, I_ x9)] [I_ xs0] n (W0 dy) g 0 0 P := by
  exact v_ret (v := some (I_ xs0)) 60 rfl (Nat.zero_le _) (Nat.zero_le _) trivial rfl h
theorem lv12_222_clash_11 : LkV miX12_clash miX12_isPart 222 1 11 := ⟨⟨⟨tbG_in (List.mem_append_right _ (List.mem_of_getElem? (i := 1400) (by decide +kernel))) rfl, tbG_in (List.mem_append_right _ (List.mem_of_getElem? (i := 9) (by decide +kernel))) rfl, tbG_in (List.mem_append_right _ (List.mem_of_getElem? (i := 1397) (by decide +kernel))) rfl⟩, ⟨by decide +kernel, by decide +kernel, by decide +kernel⟩, by decide⟩, tbG_in (List.mem_append_right _ (List.mem_of_getElem? (i := 1399) (by decide +kernel))) rfl, RX12, TX12, 58, rfl, tbG_in (List.mem_append_left _ (List.mem_of_getElem? (i := 56) (by decide +kernel))) rfl⟩
theorem lv12_234_clash_11 : LkV miX12_clash miX12_topOf 234 1 11 := ⟨⟨⟨tbG_in (List.mem_append_right _ (List.mem_of_getElem? (i := 1416) (by decide +kernel))) rfl, tbG_in (List.mem_append_right _ (List.mem_of_getElem? (i := 9) (by decide +kernel))) rfl, tbG_in (List.mem_append_right _ (List.mem_of_getElem? (i := 1413) (by decide +kernel))) rfl⟩, ⟨by decide +kernel, by decide +kernel, by decide +kernel⟩, by decide⟩, tbG_in (List.mem_append_right _ (List.mem_of_getElem? (i := 1415) (by decide +kernel))) rfl, RX12, TX12, 58, rfl, tbG_in (List.mem_append_left _ (List.mem_of_getElem? (i := 58) (by decide +kernel))) rfl⟩
theorem lv12_174_clash_11 : LkV miX12_clash miX12_refuse 174 1 11 := ⟨⟨⟨tbG_in (List.mem_append_right _ (List.mem_of_getElem? (i := 1351) (by decide +kernel))) rfl, tbG_in (List.mem_append_right _ (List.mem_of_getElem? (i := 9) (by decide +kernel))) rfl, tbG_in (List.mem_append_right _ (List.mem_of_getElem? (i := 1348) (by decide +kernel))) rfl⟩, ⟨by decide +kernel, by decide +kernel, by decide +kernel⟩, by decide⟩, tbG_in (List.mem_append_right _ (List.mem_of_getElem? (i := 1350) (by decide +kernel))) rfl, RX12, TX12, 58, rfl, tbG_in (List.mem_append_left _ (List.mem_of_getElem? (i := 50) (by decide +kernel))) rfl⟩
theorem lv12_313_clash_11 : LkV miX12_clash miX12_near 313 2 11 := ⟨⟨⟨tbG_in (List.mem_append_right _ (List.mem_of_getElem? (i := 1553) (by decide +kernel))) rfl, tbG_in (List.mem_append_right _ (List.mem_of_getElem? (i := 9) (by decide +kernel))) rfl, tbG_in (List.mem_append_right _ (List.mem_of_getElem? (i := 1550) (by decide +kernel))) rfl⟩, ⟨by decide +kernel, by decide +kernel, by decide +kernel⟩, by decide⟩, tbG_in (List.mem_append_right _ (List.mem_of_getElem? (i := 1552) (by decide +kernel))) rfl, RX12, TX12, 58, rfl, tbG_in (List.mem_append_left _ (List.mem_of_getElem? (i := 78) (by decide +kernel))) rfl⟩
theorem lv12_231_clash_11 : LkV miX12_clash miX12_heightOf 231 1 11 := ⟨⟨⟨tbG_in (List.mem_append_right _ (List.mem_of_getElem? (i := 1412) (by decide +kernel))) rfl, tbG_in (List.mem_append_right _ (List.mem_of_getElem? (i := 9) (by decide +kernel))) rfl, tbG_in (List.mem_append_right _ (List.mem_of_getElem? (i := 1409) (by decide +kernel))) rfl⟩, ⟨by decide +kernel, by decide +kernel, by decide +kernel⟩, by decide⟩, tbG_in (List.mem_append_right _ (List.mem_of_getElem? (i := 1411) (by decide +kernel))) rfl, RX12, TX12, 58, rfl, tbG_in (List.mem_append_left _ (List.mem_of_getElem? (i := 57) (by decide +kernel))) rfl⟩
set_option maxHeartbeats 8000000 in
set_option maxRecDepth 4000 in
theorem bX12_clash_0 {d n : Nat} {dy : Nat → Shp} {g : Hp} {P : Pst} {x1 : Int} {x2 : Int} (hn : 100 ≤ n) (h : Runs miX12_isPart d [.ref 53, I_ x1] n (W0 dy) (up2 (up2 g 53 1 0) 53 0 0) (fun v n' S' g' => V miX12_clash (d + 1) 15 [(0, .ref 53), (1, I_ x1), (2, I_ x2)] (v.toList ++ []) n' S' g' 0 0 P)) : V miX12_clash (d + 1) 0 [(0, .ref 53), (1, I_ x1), (2, I_ x2)] [] n (W0 dy) g 0 0 P := by
  refine v_aload_n 0 0 rfl rfl rfl ?_
  refine v_iconst 1 rfl ?_
  refine v_putI 2 rfl fl12_148_11 (al 53 rfl hn) (wk53 dy) (by decide) rfl (wc53_1 dy) (by decide) ?_
  refine v_aload_n 3 0 rfl rfl rfl ?_
  refine v_iconst 4 rfl ?_
  refine v_putI 5 rfl fl12_152_11 (al 53 rfl hn) (wk53 dy) (by decide) rfl (wc53_0 dy) (by decide) ?_
  refine v_aload_n 6 0 rfl rfl rfl ?_
  refine v_iload_n 7 1 rfl rfl rfl ?_
  refine v_callV (st := []) [I_ x1] 8 rfl lv12_222_clash_11 (al 53 rfl hn) (wk53 dy) (by decide) rfl (Nat.le_refl _) (Nat.le_refl _) ?_
  exact h
set_option maxHeartbeats 8000000 in
set_option maxRecDepth 4000 in
theorem bX12_clash_15 {d n : Nat} {dy : Nat → Shp} {g : Hp} {P : Pst} {x1 : Int} {x2 : Int} {xs0 : Int} (hn : 100 ≤ n) (h : (i3 xs0) ∧ ((xs0 = 0) → V miX12_clash (d + 1) 31 [(0, .ref 53), (1, I_ x1), (2, I_ x2)] [] n (W0 dy) g 0 0 P) ∧ ((xs0 ≠ 0) → Runs miX12_isPart d [.ref 53, I_ x2] n (W0 dy) g (fun v n' S' g' => V miX12_clash (d + 1) 23 [(0, .ref 53), (1, I_ x1), (2, I_ x2)] (v.toList ++ []) n' S' g' 0 0 P))) : V miX12_clash (d + 1) 15 [(0, .ref 53), (1, I_ x1), (2, I_ x2)] [I_ xs0] n (W0 dy) g 0 0 P := by
  have c1 := h.1
  have h := h.2
  refine v_if_eq 9 rfl (tgt := 31) rfl c1 (fun q2 => ?_) (fun q2 => ?_)
  · have h := h.1 q2
    exact h
  · have h := h.2 q2
    refine v_aload_n 10 0 rfl rfl rfl ?_
    refine v_iload_n 11 2 rfl rfl rfl ?_
    refine v_callV (st := []) [I_ x2] 12 rfl lv12_222_clash_11 (al 53 rfl hn) (wk53 dy) (by decide) rfl (Nat.le_refl _) (Nat.le_refl _) ?_
    exact h
set_option maxHeartbeats 8000000 in
set_option maxRecDepth 4000 in
theorem bX12_clash_23 {d n : Nat} {dy : Nat → Shp} {g : Hp} {P : Pst} {x1 : Int} {x2 : Int} {xs0 : Int} (hn : 100 ≤ n) (h : (i3 xs0) ∧ ((xs0 = 0) → V miX12_clash (d + 1) 31 [(0, .ref 53), (1, I_ x1), (2, I_ x2)] [] n (W0 dy) g 0 0 P) ∧ ((xs0 ≠ 0) → (i3 x1) ∧ (i3 x2) ∧ ((x1 ≠ x2) → (0 ≤ x1 ∧ x1 < 60) ∧ (((g 57 x1.toNat) ≠ 1) → V miX12_clash (d + 1) 57 [(0, .ref 53), (1, I_ x1), (2, I_ x2)] [] n (W0 dy) g 0 0 P) ∧ (((g 57 x1.toNat) = 1) → (0 ≤ x2 ∧ x2 < 60) ∧ (((g 57 x2.toNat) = 1) → Runs miX12_topOf d [.ref 53, I_ x1] n (W0 dy) g (fun v n' S' g' => V miX12_clash (d + 1) 68 [(0, .ref 53), (1, I_ x1), (2, I_ x2)] (v.toList ++ []) n' S' g' 0 0 P)) ∧ (((g 57 x2.toNat) ≠ 1) → V miX12_clash (d + 1) 57 [(0, .ref 53), (1, I_ x1), (2, I_ x2)] [] n (W0 dy) g 0 0 P))) ∧ ((x1 = x2) → V miX12_clash (d + 1) 31 [(0, .ref 53), (1, I_ x1), (2, I_ x2)] [] n (W0 dy) g 0 0 P))) : V miX12_clash (d + 1) 23 [(0, .ref 53), (1, I_ x1), (2, I_ x2)] [I_ xs0] n (W0 dy) g 0 0 P := by
  have c1 := h.1
  have h := h.2
  refine v_if_eq 13 rfl (tgt := 31) rfl c1 (fun q13 => ?_) (fun q13 => ?_)
  · have h := h.1 q13
    exact h
  · have h := h.2 q13
    refine v_iload_n 14 1 rfl rfl rfl ?_
    refine v_iload_n 15 2 rfl rfl rfl ?_
    have c2 := h.1
    have h := h.2
    have c3 := h.1
    have h := h.2
    refine v_icmp_ne 16 rfl (tgt := 37) rfl c2 c3 (fun q12 => ?_) (fun q12 => ?_)
    · have h := h.1 q12
      refine v_aload_n 21 0 rfl rfl rfl ?_
      refine v_gK 22 rfl fl12_20_11.r (al 53 rfl hn) (wk53 dy) (by decide) rfl (r := 57) (wc53_6 dy) ?_
      refine v_iload_n 23 1 rfl rfl rfl ?_
      have c4 := h.1
      have h := h.2
      refine v_ia (N := 60) 24 rfl (al 57 rfl hn) (wk57 dy) (wn57 dy) (by decide) c4 (y := g 57 x1.toNat) rfl ?_
      refine v_rng fun w5 => ?_
      have r6 : i3 (g 57 x1.toNat) := rI w5 (q := x1.toNat) (al 57 rfl hn) (wk57 dy) rfl rfl
      refine v_iconst 25 rfl ?_
      refine v_icmp_ne 26 rfl (tgt := 57) rfl r6 (by decide) (fun q11 => ?_) (fun q11 => ?_)
      · have h := h.1 q11
        exact h
      · have h := h.2 q11
        refine v_aload_n 27 0 rfl rfl rfl ?_
        refine v_gK 28 rfl fl12_20_11.r (al 53 rfl hn) (wk53 dy) (by decide) rfl (r := 57) (wc53_6 dy) ?_
        refine v_iload_n 29 2 rfl rfl rfl ?_
        have c7 := h.1
        have h := h.2
        refine v_ia (N := 60) 30 rfl (al 57 rfl hn) (wk57 dy) (wn57 dy) (by decide) c7 (y := g 57 x2.toNat) rfl ?_
        refine v_rng fun w8 => ?_
        have r9 : i3 (g 57 x2.toNat) := rI w8 (q := x2.toNat) (al 57 rfl hn) (wk57 dy) rfl rfl
        refine v_iconst 31 rfl ?_
        refine v_icmp_eq 32 rfl (tgt := 63) rfl r9 (by decide) (fun q10 => ?_) (fun q10 => ?_)
        · have h := h.1 q10
          refine v_aload_n 37 0 rfl rfl rfl ?_
          refine v_iload_n 38 1 rfl rfl rfl ?_
          refine v_callV (st := []) [I_ x1] 39 rfl lv12_234_clash_11 (al 53 rfl hn) (wk53 dy) (by decide) rfl (Nat.le_refl _) (Nat.le_refl _) ?_
          exact h
        · have h := h.2 q10
          exact h
    · have h := h.2 q12
      exact h
set_option maxHeartbeats 8000000 in
set_option maxRecDepth 4000 in
theorem bX12_clash_31 {d n : Nat} {dy : Nat → Shp} {g : Hp} {P : Pst} {x1 : Int} {x2 : Int} (hn : 100 ≤ n) (h : Runs miX12_refuse d [.ref 53, I_ 2] n (W0 dy) g (fun v n' S' g' => V miX12_clash (d + 1) 36 [(0, .ref 53), (1, I_ x1), (2, I_ x2)] (v.toList ++ []) n' S' g' 0 0 P)) : V miX12_clash (d + 1) 31 [(0, .ref 53), (1, I_ x1), (2, I_ x2)] [] n (W0 dy) g 0 0 P := by
  refine v_aload_n 17 0 rfl rfl rfl ?_
  refine v_iconst 18 rfl ?_
  refine v_callV (st := []) [I_ 2] 19 rfl lv12_174_clash_11 (al 53 rfl hn) (wk53 dy) (by decide) rfl (Nat.le_refl _) (Nat.le_refl _) ?_
  exact h
set_option maxHeartbeats 8000000 in
set_option maxRecDepth 4000 in
theorem bX12_clash_36 {d n : Nat} {dy : Nat → Shp} {g : Hp} {P : Pst} {x1 : Int} {x2 : Int} {xs0 : Int} (hn : 100 ≤ n) (h : P (some (I_ xs0)) n (W0 dy) g) : V miX12_clash (d + 1) 36 [(0, .ref 53), (1, I_ x1), (2, I_ x2)] [I_ xs0] n (W0 dy) g 0 0 P := by
  exact v_ret (v := some (I_ xs0)) 20 rfl (Nat.zero_le _) (Nat.zero_le _) trivial rfl h
set_option maxHeartbeats 8000000 in
set_option maxRecDepth 4000 in
theorem bX12_clash_57 {d n : Nat} {dy : Nat → Shp} {g : Hp} {P : Pst} {x1 : Int} {x2 : Int} (hn : 100 ≤ n) (h : Runs miX12_refuse d [.ref 53, I_ 5] n (W0 dy) g (fun v n' S' g' => V miX12_clash (d + 1) 62 [(0, .ref 53), (1, I_ x1), (2, I_ x2)] (v.toList ++ []) n' S' g' 0 0 P)) : V miX12_clash (d + 1) 57 [(0, .ref 53), (1, I_ x1), (2, I_ x2)] [] n (W0 dy) g 0 0 P := by
  refine v_aload_n 33 0 rfl rfl rfl ?_
  refine v_iconst 34 rfl ?_
  refine v_callV (st := []) [I_ 5] 35 rfl lv12_174_clash_11 (al 53 rfl hn) (wk53 dy) (by decide) rfl (Nat.le_refl _) (Nat.le_refl _) ?_
  exact h
set_option maxHeartbeats 8000000 in
set_option maxRecDepth 4000 in
theorem bX12_clash_62 {d n : Nat} {dy : Nat → Shp} {g : Hp} {P : Pst} {x1 : Int} {x2 : Int} {xs0 : Int} (hn : 100 ≤ n) (h : P (some (I_ xs0)) n (W0 dy) g) : V miX12_clash (d + 1) 62 [(0, .ref 53), (1, I_ x1), (2, I_ x2)] [I_ xs0] n (W0 dy) g 0 0 P := by
  exact v_ret (v := some (I_ xs0)) 36 rfl (Nat.zero_le _) (Nat.zero_le _) trivial rfl h
set_option maxHeartbeats 8000000 in
set_option maxRecDepth 4000 in
theorem bX12_clash_68 {d n : Nat} {dy : Nat → Shp} {g : Hp} {P : Pst} {x1 : Int} {x2 : Int} {xs0 : Int} (hn : 100 ≤ n) (h : Runs miX12_topOf d [.ref 53, I_ x2] n (W0 dy) g (fun v n' S' g' => V miX12_clash (d + 1) 73 [(0, .ref 53), (1, I_ x1), (2, I_ x2)] (v.toList ++ [I_ xs0]) n' S' g' 0 0 P)) : V miX12_clash (d + 1) 68 [(0, .ref 53), (1, I_ x1), (2, I_ x2)] [I_ xs0] n (W0 dy) g 0 0 P := by
  refine v_aload_n 40 0 rfl rfl rfl ?_
  refine v_iload_n 41 2 rfl rfl rfl ?_
  refine v_callV (st := [I_ xs0]) [I_ x2] 42 rfl lv12_234_clash_11 (al 53 rfl hn) (wk53 dy) (by decide) rfl (Nat.le_refl _) (Nat.le_refl _) ?_
  exact h
set_option maxHeartbeats 8000000 in
set_option maxRecDepth 4000 in
theorem bX12_clash_73 {d n : Nat} {dy : Nat → Shp} {g : Hp} {P : Pst} {x1 : Int} {x2 : Int} {xs0 : Int} {xs1 : Int} (hn : 100 ≤ n) (h : (i3 xs0) ∧ (i3 xs1) ∧ ((xs0 = xs1) → Runs miX12_near d [.ref 53, I_ x1, I_ x2] n (W0 dy) g (fun v n' S' g' => V miX12_clash (d + 1) 89 [(0, .ref 53), (1, I_ x1), (2, I_ x2)] (v.toList ++ []) n' S' g' 0 0 P)) ∧ ((xs0 ≠ xs1) → Runs miX12_refuse d [.ref 53, I_ 8] n (W0 dy) g (fun v n' S' g' => V miX12_clash (d + 1) 82 [(0, .ref 53), (1, I_ x1), (2, I_ x2)] (v.toList ++ []) n' S' g' 0 0 P))) : V miX12_clash (d + 1) 73 [(0, .ref 53), (1, I_ x1), (2, I_ x2)] [I_ xs1, I_ xs0] n (W0 dy) g 0 0 P := by
  have c1 := h.1
  have h := h.2
  have c2 := h.1
  have h := h.2
  refine v_icmp_eq 43 rfl (tgt := 83) rfl c1 c2 (fun q3 => ?_) (fun q3 => ?_)
  · have h := h.1 q3
    refine v_aload_n 48 0 rfl rfl rfl ?_
    refine v_iload_n 49 1 rfl rfl rfl ?_
    refine v_iload_n 50 2 rfl rfl rfl ?_
    refine v_callV (st := []) [I_ x1, I_ x2] 51 rfl lv12_313_clash_11 (al 53 rfl hn) (wk53 dy) (by decide) rfl (Nat.le_refl _) (Nat.le_refl _) ?_
    exact h
  · have h := h.2 q3
    refine v_aload_n 44 0 rfl rfl rfl ?_
    refine v_bipush 45 rfl (by decide) ?_
    refine v_callV (st := []) [I_ 8] 46 rfl lv12_174_clash_11 (al 53 rfl hn) (wk53 dy) (by decide) rfl (Nat.le_refl _) (Nat.le_refl _) ?_
    exact h
set_option maxHeartbeats 8000000 in
set_option maxRecDepth 4000 in
theorem bX12_clash_82 {d n : Nat} {dy : Nat → Shp} {g : Hp} {P : Pst} {x1 : Int} {x2 : Int} {xs0 : Int} (hn : 100 ≤ n) (h : P (some (I_ xs0)) n (W0 dy) g) : V miX12_clash (d + 1) 82 [(0, .ref 53), (1, I_ x1), (2, I_ x2)] [I_ xs0] n (W0 dy) g 0 0 P := by
  exact v_ret (v := some (I_ xs0)) 47 rfl (Nat.zero_le _) (Nat.zero_le _) trivial rfl h
set_option maxHeartbeats 8000000 in
set_option maxRecDepth 4000 in
theorem bX12_clash_89 {d n : Nat} {dy : Nat → Shp} {g : Hp} {P : Pst} {x1 : Int} {x2 : Int} {xs0 : Int} (hn : 100 ≤ n) (h : (i3 xs0) ∧ ((0 ≤ xs0) → Runs miX12_heightOf d [.ref 53, I_ x1] n (W0 dy) g (fun v n' S' g' => V miX12_clash (d + 1) 106 [(0, .ref 53), (1, I_ x1), (2, I_ x2), (3, I_ xs0)] (v.toList ++ []) n' S' g' 0 0 P)) ∧ ((xs0 < 0) → Runs miX12_refuse d [.ref 53, I_ 9] n (W0 dy) g (fun v n' S' g' => V miX12_clash (d + 1) 100 [(0, .ref 53), (1, I_ x1), (2, I_ x2), (3, I_ xs0)] (v.toList ++ []) n' S' g' 0 0 P))) : V miX12_clash (d + 1) 89 [(0, .ref 53), (1, I_ x1), (2, I_ x2)] [I_ xs0] n (W0 dy) g 0 0 P := by
  refine v_istore_n 52 [1, 2, 3, 0] rfl rfl (by decide) rfl ?_
  refine v_iload_n 53 3 rfl rfl rfl ?_
  have c1 := h.1
  have h := h.2
  refine v_if_ge 54 rfl (tgt := 101) rfl c1 (fun q2 => ?_) (fun q2 => ?_)
  · have h := h.1 q2
    refine v_aload_n 59 0 rfl rfl rfl ?_
    refine v_iload_n 60 1 rfl rfl rfl ?_
    refine v_callV (st := []) [I_ x1] 61 rfl lv12_231_clash_11 (al 53 rfl hn) (wk53 dy) (by decide) rfl (Nat.le_refl _) (Nat.le_refl _) ?_
    exact h
  · have h := h.2 q2
    refine v_aload_n 55 0 rfl rfl rfl ?_
    refine v_bipush 56 rfl (by decide) ?_
    refine v_callV (st := []) [I_ 9] 57 rfl lv12_174_clash_11 (al 53 rfl hn) (wk53 dy) (by decide) rfl (Nat.le_refl _) (Nat.le_refl _) ?_
    exact h
set_option maxHeartbeats 8000000 in
set_option maxRecDepth 4000 in
theorem bX12_clash_100 {d n : Nat} {dy : Nat → Shp} {g : Hp} {P : Pst} {x1 : Int} {x2 : Int} {x3 : Int} {xs0 : Int} (hn : 100 ≤ n) (h : P (some (I_ xs0)) n (W0 dy) g) : V miX12_clash (d + 1) 100 [(0, .ref 53), (1, I_ x1), (2, I_ x2), (3, I_ x3)] [I_ xs0] n (W0 dy) g 0 0 P := by
  exact v_ret (v := some (I_ xs0)) 58 rfl (Nat.zero_le _) (Nat.zero_le _) trivial rfl h
set_option maxHeartbeats 8000000 in
set_option maxRecDepth 4000 in
theorem bX12_clash_106 {d n : Nat} {dy : Nat → Shp} {g : Hp} {P : Pst} {x1 : Int} {x2 : Int} {x3 : Int} {xs0 : Int} (hn : 100 ≤ n) (h : Runs miX12_heightOf d [.ref 53, I_ x2] n (W0 dy) g (fun v n' S' g' => V miX12_clash (d + 1) 111 [(0, .ref 53), (1, I_ x1), (2, I_ x2), (3, I_ x3)] (v.toList ++ [I_ xs0]) n' S' g' 0 0 P)) : V miX12_clash (d + 1) 106 [(0, .ref 53), (1, I_ x1), (2, I_ x2), (3, I_ x3)] [I_ xs0] n (W0 dy) g 0 0 P := by
  refine v_aload_n 62 0 rfl rfl rfl ?_
  refine v_iload_n 63 2 rfl rfl rfl ?_
  refine v_callV (st := [I_ xs0]) [I_ x2] 64 rfl lv12_231_clash_11 (al 53 rfl hn) (wk53 dy) (by decide) rfl (Nat.le_refl _) (Nat.le_refl _) ?_
  exact h
set_option maxHeartbeats 8000000 in
set_option maxRecDepth 4000 in
theorem bX12_clash_111 {d n : Nat} {dy : Nat → Shp} {g : Hp} {P : Pst} {x1 : Int} {x2 : Int} {x3 : Int} {xs0 : Int} {xs1 : Int} (hn : 100 ≤ n) (h : (i3 xs0) ∧ (i3 xs1) ∧ ((xs0 ≠ xs1) → V miX12_clash (d + 1) 119 [(0, .ref 53), (1, I_ x1), (2, I_ x2), (3, I_ x3)] [I_ 0] n (W0 dy) g 0 0 P) ∧ ((xs0 = xs1) → V miX12_clash (d + 1) 119 [(0, .ref 53), (1, I_ x1), (2, I_ x2), (3, I_ x3)] [I_ x3] n (W0 dy) g 0 0 P)) : V miX12_clash (d + 1) 111 [(0, .ref 53), (1, I_ x1), (2, I_ x2), (3, I_ x3)] [I_ xs1, I_ xs0] n (W0 dy) g 0 0 P := by
  have c1 := h.1
  have h := h.2
  have c2 := h.1
  have h := h.2
  refine v_icmp_ne 65 rfl (tgt := 118) rfl c1 c2 (fun q3 => ?_) (fun q3 => ?_)
  · have h := h.1 q3
    refine v_iconst 68 rfl ?_
    exact h
  · have h := h.2 q3
    refine v_iload_n 66 3 rfl rfl rfl ?_
    refine v_goto 67 rfl (tgt := 119) rfl ?_
    exact h
set_option maxHeartbeats 8000000 in
set_option maxRecDepth 4000 in
theorem bX12_clash_119 {d n : Nat} {dy : Nat → Shp} {g : Hp} {P : Pst} {x1 : Int} {x2 : Int} {x3 : Int} {xs0 : Int} (hn : 100 ≤ n) (h : P (some (I_ xs0)) n (W0 dy) g) : V miX12_clash (d + 1) 119 [(0, .ref 53), (1, I_ x1), (2, I_ x2), (3, I_ x3)] [I_ xs0] n (W0 dy) g 0 0 P := by
  exact v_ret (v := some (I_ xs0)) 69 rfl (Nat.zero_le _) (Nat.zero_le _) trivial rfl h
theorem lv12_274_wholes_11 : LkV miX12_wholes miX12_topped 274 1 11 := ⟨⟨⟨tbG_in (List.mem_append_right _ (List.mem_of_getElem? (i := 1501) (by decide +kernel))) rfl, tbG_in (List.mem_append_right _ (List.mem_of_getElem? (i := 9) (by decide +kernel))) rfl, tbG_in (List.mem_append_right _ (List.mem_of_getElem? (i := 1498) (by decide +kernel))) rfl⟩, ⟨by decide +kernel, by decide +kernel, by decide +kernel⟩, by decide⟩, tbG_in (List.mem_append_right _ (List.mem_of_getElem? (i := 1500) (by decide +kernel))) rfl, RX12, TX12, 58, rfl, tbG_in (List.mem_append_left _ (List.mem_of_getElem? (i := 70) (by decide +kernel))) rfl⟩
theorem lv12_277_wholes_11 : LkV miX12_wholes miX12_marks 277 1 11 := ⟨⟨⟨tbG_in (List.mem_append_right _ (List.mem_of_getElem? (i := 1505) (by decide +kernel))) rfl, tbG_in (List.mem_append_right _ (List.mem_of_getElem? (i := 9) (by decide +kernel))) rfl, tbG_in (List.mem_append_right _ (List.mem_of_getElem? (i := 1502) (by decide +kernel))) rfl⟩, ⟨by decide +kernel, by decide +kernel, by decide +kernel⟩, by decide⟩, tbG_in (List.mem_append_right _ (List.mem_of_getElem? (i := 1504) (by decide +kernel))) rfl, RX12, TX12, 58, rfl, tbG_in (List.mem_append_left _ (List.mem_of_getElem? (i := 71) (by decide +kernel))) rfl⟩
theorem lv12_237_wholes_11 : LkV miX12_wholes miX12_isRod 237 1 11 := ⟨⟨⟨tbG_in (List.mem_append_right _ (List.mem_of_getElem? (i := 1428) (by decide +kernel))) rfl, tbG_in (List.mem_append_right _ (List.mem_of_getElem? (i := 9) (by decide +kernel))) rfl, tbG_in (List.mem_append_right _ (List.mem_of_getElem? (i := 1425) (by decide +kernel))) rfl⟩, ⟨by decide +kernel, by decide +kernel, by decide +kernel⟩, by decide⟩, tbG_in (List.mem_append_right _ (List.mem_of_getElem? (i := 1427) (by decide +kernel))) rfl, RX12, TX12, 58, rfl, tbG_in (List.mem_append_left _ (List.mem_of_getElem? (i := 60) (by decide +kernel))) rfl⟩
theorem lv12_297_wholes_11 : LkV miX12_wholes miX12_isWhole 297 1 11 := ⟨⟨⟨tbG_in (List.mem_append_right _ (List.mem_of_getElem? (i := 1533) (by decide +kernel))) rfl, tbG_in (List.mem_append_right _ (List.mem_of_getElem? (i := 9) (by decide +kernel))) rfl, tbG_in (List.mem_append_right _ (List.mem_of_getElem? (i := 1530) (by decide +kernel))) rfl⟩, ⟨by decide +kernel, by decide +kernel, by decide +kernel⟩, by decide⟩, tbG_in (List.mem_append_right _ (List.mem_of_getElem? (i := 1532) (by decide +kernel))) rfl, RX12, TX12, 58, rfl, tbG_in (List.mem_append_left _ (List.mem_of_getElem? (i := 75) (by decide +kernel))) rfl⟩
set_option maxHeartbeats 8000000 in
set_option maxRecDepth 4000 in
theorem bX12_wholes_0 {d n : Nat} {dy : Nat → Shp} {g : Hp} {P : Pst} {x1 : Int} (hn : 100 ≤ n) (h : Runs miX12_topped d [.ref 53, I_ x1] n (W0 dy) g (fun v n' S' g' => V miX12_wholes (d + 1) 5 [(0, .ref 53), (1, I_ x1)] (v.toList ++ []) n' S' g' 0 0 P)) : V miX12_wholes (d + 1) 0 [(0, .ref 53), (1, I_ x1)] [] n (W0 dy) g 0 0 P := by
  refine v_aload_n 0 0 rfl rfl rfl ?_
  refine v_iload_n 1 1 rfl rfl rfl ?_
  refine v_callV (st := []) [I_ x1] 2 rfl lv12_274_wholes_11 (al 53 rfl hn) (wk53 dy) (by decide) rfl (Nat.le_refl _) (Nat.le_refl _) ?_
  exact h
set_option maxHeartbeats 8000000 in
set_option maxRecDepth 4000 in
theorem bX12_wholes_5 {d n : Nat} {dy : Nat → Shp} {g : Hp} {P : Pst} {x1 : Int} {xs0 : Int} (hn : 100 ≤ n) (h : (i3 xs0) ∧ ((xs0 ≤ 0) → Runs miX12_marks d [.ref 53, I_ x1] n (W0 dy) g (fun v n' S' g' => V miX12_wholes (d + 1) 17 [(0, .ref 53), (1, I_ x1), (2, I_ xs0)] (v.toList ++ []) n' S' g' 0 0 P)) ∧ ((0 < xs0) → P (some (I_ xs0)) n (W0 dy) g)) : V miX12_wholes (d + 1) 5 [(0, .ref 53), (1, I_ x1)] [I_ xs0] n (W0 dy) g 0 0 P := by
  refine v_istore_n 3 [1, 2, 0] rfl rfl (by decide) rfl ?_
  refine v_iload_n 4 2 rfl rfl rfl ?_
  have c1 := h.1
  have h := h.2
  refine v_if_le 5 rfl (tgt := 12) rfl c1 (fun q2 => ?_) (fun q2 => ?_)
  · have h := h.1 q2
    refine v_aload_n 8 0 rfl rfl rfl ?_
    refine v_iload_n 9 1 rfl rfl rfl ?_
    refine v_callV (st := []) [I_ x1] 10 rfl lv12_277_wholes_11 (al 53 rfl hn) (wk53 dy) (by decide) rfl (Nat.le_refl _) (Nat.le_refl _) ?_
    exact h
  · have h := h.2 q2
    refine v_iload_n 6 2 rfl rfl rfl ?_
    exact v_ret (v := some (I_ xs0)) 7 rfl (Nat.zero_le _) (Nat.zero_le _) trivial rfl h
set_option maxHeartbeats 8000000 in
set_option maxRecDepth 4000 in
theorem bX12_wholes_17 {d n : Nat} {dy : Nat → Shp} {g : Hp} {P : Pst} {x1 : Int} {x2 : Int} (hn : 100 ≤ n) (h : V miX12_wholes (d + 1) 19 [(0, .ref 53), (1, I_ x1), (2, I_ x2), (3, I_ 0)] [] n (W0 dy) g 0 0 P) : V miX12_wholes (d + 1) 17 [(0, .ref 53), (1, I_ x1), (2, I_ x2)] [] n (W0 dy) g 0 0 P := by
  refine v_iconst 11 rfl ?_
  refine v_istore_n 12 [1, 2, 3, 0] rfl rfl (by decide) rfl ?_
  exact h
set_option maxHeartbeats 8000000 in
set_option maxRecDepth 4000 in
theorem bX12_wholes_19 {d n : Nat} {dy : Nat → Shp} {g : Hp} {P : Pst} {x1 : Int} {x2 : Int} {x3 : Int} (hn : 100 ≤ n) (h : (i3 x3) ∧ (((g 53 5) ≤ x3) → P (some (I_ 0)) n (W0 dy) g) ∧ ((x3 < (g 53 5)) → (0 ≤ x3 ∧ x3 < 60) ∧ (((g 75 x3.toNat) = 0) → V miX12_wholes (d + 1) 55 [(0, .ref 53), (1, I_ x1), (2, I_ x2), (3, I_ x3)] [] n (W0 dy) g 0 0 P) ∧ (((g 75 x3.toNat) ≠ 0) → Runs miX12_isRod d [.ref 53, I_ x3] n (W0 dy) g (fun v n' S' g' => V miX12_wholes (d + 1) 41 [(0, .ref 53), (1, I_ x1), (2, I_ x2), (3, I_ x3)] (v.toList ++ []) n' S' g' 0 0 P)))) : V miX12_wholes (d + 1) 19 [(0, .ref 53), (1, I_ x1), (2, I_ x2), (3, I_ x3)] [] n (W0 dy) g 0 0 P := by
  refine v_iload_n 13 3 rfl rfl rfl ?_
  refine v_aload_n 14 0 rfl rfl rfl ?_
  refine v_gI 15 rfl fl12_169_11.r (al 53 rfl hn) (wk53 dy) (by decide) rfl (wc53_5 dy) (x := g 53 5) rfl ?_
  refine v_rng fun w1 => ?_
  have r2 : i3 (g 53 5) := rI w1 (q := 5) (al 53 rfl hn) (wk53 dy) rfl rfl
  have c3 := h.1
  have h := h.2
  refine v_icmp_ge 16 rfl (tgt := 61) rfl c3 r2 (fun q8 => ?_) (fun q8 => ?_)
  · have h := h.1 q8
    refine v_iconst 34 rfl ?_
    exact v_ret (v := some (I_ 0)) 35 rfl (Nat.zero_le _) (Nat.zero_le _) trivial rfl h
  · have h := h.2 q8
    refine v_aload_n 17 0 rfl rfl rfl ?_
    refine v_gK 18 rfl fl12_74_11.r (al 53 rfl hn) (wk53 dy) (by decide) rfl (r := 75) (wc53_24 dy) ?_
    refine v_iload_n 19 3 rfl rfl rfl ?_
    have c4 := h.1
    have h := h.2
    refine v_za (N := 60) 20 rfl (al 75 rfl hn) (wk75 dy) (wn75 dy) (by decide) c4 (y := g 75 x3.toNat) rfl ?_
    refine v_rng fun w5 => ?_
    have r6 : i3 (g 75 x3.toNat) := rI w5 (q := x3.toNat) (al 75 rfl hn) (wk75 dy) rfl rfl
    refine v_if_eq 21 rfl (tgt := 55) rfl r6 (fun q7 => ?_) (fun q7 => ?_)
    · have h := h.1 q7
      exact h
    · have h := h.2 q7
      refine v_aload_n 22 0 rfl rfl rfl ?_
      refine v_iload_n 23 3 rfl rfl rfl ?_
      refine v_callV (st := []) [I_ x3] 24 rfl lv12_237_wholes_11 (al 53 rfl hn) (wk53 dy) (by decide) rfl (Nat.le_refl _) (Nat.le_refl _) ?_
      exact h
set_option maxHeartbeats 8000000 in
set_option maxRecDepth 4000 in
theorem bX12_wholes_41 {d n : Nat} {dy : Nat → Shp} {g : Hp} {P : Pst} {x1 : Int} {x2 : Int} {x3 : Int} {xs0 : Int} (hn : 100 ≤ n) (h : (i3 xs0) ∧ ((xs0 = 0) → V miX12_wholes (d + 1) 55 [(0, .ref 53), (1, I_ x1), (2, I_ x2), (3, I_ x3)] [] n (W0 dy) g 0 0 P) ∧ ((xs0 ≠ 0) → Runs miX12_isWhole d [.ref 53, I_ x3] n (W0 dy) g (fun v n' S' g' => V miX12_wholes (d + 1) 49 [(0, .ref 53), (1, I_ x1), (2, I_ x2), (3, I_ x3)] (v.toList ++ []) n' S' g' 0 0 P))) : V miX12_wholes (d + 1) 41 [(0, .ref 53), (1, I_ x1), (2, I_ x2), (3, I_ x3)] [I_ xs0] n (W0 dy) g 0 0 P := by
  have c1 := h.1
  have h := h.2
  refine v_if_eq 25 rfl (tgt := 55) rfl c1 (fun q2 => ?_) (fun q2 => ?_)
  · have h := h.1 q2
    exact h
  · have h := h.2 q2
    refine v_aload_n 26 0 rfl rfl rfl ?_
    refine v_iload_n 27 3 rfl rfl rfl ?_
    refine v_callV (st := []) [I_ x3] 28 rfl lv12_297_wholes_11 (al 53 rfl hn) (wk53 dy) (by decide) rfl (Nat.le_refl _) (Nat.le_refl _) ?_
    exact h
set_option maxHeartbeats 8000000 in
set_option maxRecDepth 4000 in
theorem bX12_wholes_49 {d n : Nat} {dy : Nat → Shp} {g : Hp} {P : Pst} {x1 : Int} {x2 : Int} {x3 : Int} {xs0 : Int} (hn : 100 ≤ n) (h : (i3 xs0) ∧ ((xs0 ≠ 0) → V miX12_wholes (d + 1) 55 [(0, .ref 53), (1, I_ x1), (2, I_ x2), (3, I_ x3)] [] n (W0 dy) g 0 0 P) ∧ ((xs0 = 0) → P (some (I_ 9)) n (W0 dy) g)) : V miX12_wholes (d + 1) 49 [(0, .ref 53), (1, I_ x1), (2, I_ x2), (3, I_ x3)] [I_ xs0] n (W0 dy) g 0 0 P := by
  have c1 := h.1
  have h := h.2
  refine v_if_ne 29 rfl (tgt := 55) rfl c1 (fun q2 => ?_) (fun q2 => ?_)
  · have h := h.1 q2
    exact h
  · have h := h.2 q2
    refine v_bipush 30 rfl (by decide) ?_
    exact v_ret (v := some (I_ 9)) 31 rfl (Nat.zero_le _) (Nat.zero_le _) trivial rfl h
set_option maxHeartbeats 8000000 in
set_option maxRecDepth 4000 in
theorem bX12_wholes_55 {d n : Nat} {dy : Nat → Shp} {g : Hp} {P : Pst} {x1 : Int} {x2 : Int} {x3 : Int} (hn : 100 ≤ n) (h : V miX12_wholes (d + 1) 19 [(0, .ref 53), (1, I_ x1), (2, I_ x2), (3, I_ (x3 + 1))] [] n (W0 dy) g 0 0 P) : V miX12_wholes (d + 1) 55 [(0, .ref 53), (1, I_ x1), (2, I_ x2), (3, I_ x3)] [] n (W0 dy) g 0 0 P := by
  refine v_iinc 32 3 [1, 2, 3, 0] rfl rfl (by decide) rfl ?_
  refine v_goto 33 rfl (tgt := 19) rfl ?_
  exact h
theorem fl12_316_11 : FL RX12 316 11 35 false .int := ⟨RX12, TX12, 58, "MobileMakerModel", rfl, rfl, by decide, kf11, tbG_in (List.mem_append_right _ (List.mem_of_getElem? (i := 1162) (by decide +kernel))) rfl, Or.inl rfl, rfl, by decide +kernel, ⟨tyX12, tyX12_ok⟩, nmX12, fun h => by cases h⟩
theorem fl12_94_11 : FL RX12 94 11 36 true (.array .int) := ⟨RX12, TX12, 58, "MobileMakerModel", rfl, rfl, by decide, kf11, tbG_in (List.mem_append_right _ (List.mem_of_getElem? (i := 1163) (by decide +kernel))) rfl, Or.inl rfl, rfl, by decide +kernel, ⟨tyX12, tyX12_ok⟩, nmX12, fun _ => rfl⟩
theorem fl12_97_11 : FL RX12 97 11 37 true (.array .int) := ⟨RX12, TX12, 58, "MobileMakerModel", rfl, rfl, by decide, kf11, tbG_in (List.mem_append_right _ (List.mem_of_getElem? (i := 1164) (by decide +kernel))) rfl, Or.inl rfl, rfl, by decide +kernel, ⟨tyX12, tyX12_ok⟩, nmX12, fun _ => rfl⟩
theorem lv12_313_findPairs_11 : LkV miX12_findPairs miX12_near 313 2 11 := ⟨⟨⟨tbG_in (List.mem_append_right _ (List.mem_of_getElem? (i := 1553) (by decide +kernel))) rfl, tbG_in (List.mem_append_right _ (List.mem_of_getElem? (i := 9) (by decide +kernel))) rfl, tbG_in (List.mem_append_right _ (List.mem_of_getElem? (i := 1550) (by decide +kernel))) rfl⟩, ⟨by decide +kernel, by decide +kernel, by decide +kernel⟩, by decide⟩, tbG_in (List.mem_append_right _ (List.mem_of_getElem? (i := 1552) (by decide +kernel))) rfl, RX12, TX12, 58, rfl, tbG_in (List.mem_append_left _ (List.mem_of_getElem? (i := 78) (by decide +kernel))) rfl⟩
set_option maxHeartbeats 8000000 in
set_option maxRecDepth 4000 in
theorem bX12_findPairs_0 {d n : Nat} {dy : Nat → Shp} {g : Hp} {P : Pst}  (hn : 100 ≤ n) (h : V miX12_findPairs (d + 1) 7 [(0, .ref 53), (1, I_ 0)] [] n (W0 dy) (up2 g 53 35 0) 0 0 P) : V miX12_findPairs (d + 1) 0 [(0, .ref 53)] [] n (W0 dy) g 0 0 P := by
  refine v_aload_n 0 0 rfl rfl rfl ?_
  refine v_iconst 1 rfl ?_
  refine v_putI 2 rfl fl12_316_11 (al 53 rfl hn) (wk53 dy) (by decide) rfl (wc53_35 dy) (by decide) ?_
  refine v_iconst 3 rfl ?_
  refine v_istore_n 4 [1, 0] rfl rfl (by decide) rfl ?_
  exact h
set_option maxHeartbeats 8000000 in
set_option maxRecDepth 4000 in
theorem bX12_findPairs_7 {d n : Nat} {dy : Nat → Shp} {g : Hp} {P : Pst} {x1 : Int} (hn : 100 ≤ n) (h : (i3 x1) ∧ (((g 53 5) ≤ x1) → P none n (W0 dy) g) ∧ ((x1 < (g 53 5)) → (0 ≤ x1 ∧ x1 < 60) ∧ (((g 75 x1.toNat) = 0) → V miX12_findPairs (d + 1) 117 [(0, .ref 53), (1, I_ x1)] [] n (W0 dy) g 0 0 P) ∧ (((g 75 x1.toNat) ≠ 0) → (((g 57 x1.toNat) = 1) → V miX12_findPairs (d + 1) 41 [(0, .ref 53), (1, I_ x1), (2, I_ (x1 + 1))] [] n (W0 dy) g 0 0 P) ∧ (((g 57 x1.toNat) ≠ 1) → V miX12_findPairs (d + 1) 117 [(0, .ref 53), (1, I_ x1)] [] n (W0 dy) g 0 0 P)))) : V miX12_findPairs (d + 1) 7 [(0, .ref 53), (1, I_ x1)] [] n (W0 dy) g 0 0 P := by
  refine v_iload_n 5 1 rfl rfl rfl ?_
  refine v_aload_n 6 0 rfl rfl rfl ?_
  refine v_gI 7 rfl fl12_169_11.r (al 53 rfl hn) (wk53 dy) (by decide) rfl (wc53_5 dy) (x := g 53 5) rfl ?_
  refine v_rng fun w1 => ?_
  have r2 : i3 (g 53 5) := rI w1 (q := 5) (al 53 rfl hn) (wk53 dy) rfl rfl
  have c3 := h.1
  have h := h.2
  refine v_icmp_ge 8 rfl (tgt := 123) rfl c3 r2 (fun q11 => ?_) (fun q11 => ?_)
  · have h := h.1 q11
    exact v_ret (v := none) 69 rfl (Nat.zero_le _) (Nat.zero_le _) trivial rfl h
  · have h := h.2 q11
    refine v_aload_n 9 0 rfl rfl rfl ?_
    refine v_gK 10 rfl fl12_74_11.r (al 53 rfl hn) (wk53 dy) (by decide) rfl (r := 75) (wc53_24 dy) ?_
    refine v_iload_n 11 1 rfl rfl rfl ?_
    have c4 := h.1
    have h := h.2
    refine v_za (N := 60) 12 rfl (al 75 rfl hn) (wk75 dy) (wn75 dy) (by decide) c4 (y := g 75 x1.toNat) rfl ?_
    refine v_rng fun w5 => ?_
    have r6 : i3 (g 75 x1.toNat) := rI w5 (q := x1.toNat) (al 75 rfl hn) (wk75 dy) rfl rfl
    refine v_if_eq 13 rfl (tgt := 117) rfl r6 (fun q10 => ?_) (fun q10 => ?_)
    · have h := h.1 q10
      exact h
    · have h := h.2 q10
      refine v_aload_n 14 0 rfl rfl rfl ?_
      refine v_gK 15 rfl fl12_20_11.r (al 53 rfl hn) (wk53 dy) (by decide) rfl (r := 57) (wc53_6 dy) ?_
      refine v_iload_n 16 1 rfl rfl rfl ?_
      refine v_ia (N := 60) 17 rfl (al 57 rfl hn) (wk57 dy) (wn57 dy) (by decide) c4 (y := g 57 x1.toNat) rfl ?_
      refine v_rng fun w7 => ?_
      have r8 : i3 (g 57 x1.toNat) := rI w7 (q := x1.toNat) (al 57 rfl hn) (wk57 dy) rfl rfl
      refine v_iconst 18 rfl ?_
      refine v_icmp_eq 19 rfl (tgt := 37) rfl r8 (by decide) (fun q9 => ?_) (fun q9 => ?_)
      · have h := h.1 q9
        refine v_iload_n 21 1 rfl rfl rfl ?_
        refine v_iconst 22 rfl ?_
        refine v_iadd 23 rfl ?_
        refine v_istore_n 24 [1, 2, 0] rfl rfl (by decide) rfl ?_
        exact h
      · have h := h.2 q9
        refine v_goto 20 rfl (tgt := 117) rfl ?_
        exact h
set_option maxHeartbeats 8000000 in
set_option maxRecDepth 4000 in
theorem bX12_findPairs_41 {d n : Nat} {dy : Nat → Shp} {g : Hp} {P : Pst} {x1 : Int} {x2 : Int} (hn : 100 ≤ n) (h : (i3 x2) ∧ (((g 53 5) ≤ x2) → V miX12_findPairs (d + 1) 117 [(0, .ref 53), (1, I_ x1)] [] n (W0 dy) g 0 0 P) ∧ ((x2 < (g 53 5)) → (0 ≤ x2 ∧ x2 < 60) ∧ (((g 75 x2.toNat) = 0) → V miX12_findPairs (d + 1) 111 [(0, .ref 53), (1, I_ x1), (2, I_ x2)] [] n (W0 dy) g 0 0 P) ∧ (((g 75 x2.toNat) ≠ 0) → (((g 57 x2.toNat) ≠ 1) → V miX12_findPairs (d + 1) 111 [(0, .ref 53), (1, I_ x1), (2, I_ x2)] [] n (W0 dy) g 0 0 P) ∧ (((g 57 x2.toNat) = 1) → Runs miX12_near d [.ref 53, I_ x1, I_ x2] n (W0 dy) g (fun v n' S' g' => V miX12_findPairs (d + 1) 74 [(0, .ref 53), (1, I_ x1), (2, I_ x2)] (v.toList ++ []) n' S' g' 0 0 P))))) : V miX12_findPairs (d + 1) 41 [(0, .ref 53), (1, I_ x1), (2, I_ x2)] [] n (W0 dy) g 0 0 P := by
  refine v_iload_n 25 2 rfl rfl rfl ?_
  refine v_aload_n 26 0 rfl rfl rfl ?_
  refine v_gI 27 rfl fl12_169_11.r (al 53 rfl hn) (wk53 dy) (by decide) rfl (wc53_5 dy) (x := g 53 5) rfl ?_
  refine v_rng fun w1 => ?_
  have r2 : i3 (g 53 5) := rI w1 (q := 5) (al 53 rfl hn) (wk53 dy) rfl rfl
  have c3 := h.1
  have h := h.2
  refine v_icmp_ge 28 rfl (tgt := 117) rfl c3 r2 (fun q11 => ?_) (fun q11 => ?_)
  · have h := h.1 q11
    refine v_loc [0, 1] rfl ?_
    exact h
  · have h := h.2 q11
    refine v_aload_n 29 0 rfl rfl rfl ?_
    refine v_gK 30 rfl fl12_74_11.r (al 53 rfl hn) (wk53 dy) (by decide) rfl (r := 75) (wc53_24 dy) ?_
    refine v_iload_n 31 2 rfl rfl rfl ?_
    have c4 := h.1
    have h := h.2
    refine v_za (N := 60) 32 rfl (al 75 rfl hn) (wk75 dy) (wn75 dy) (by decide) c4 (y := g 75 x2.toNat) rfl ?_
    refine v_rng fun w5 => ?_
    have r6 : i3 (g 75 x2.toNat) := rI w5 (q := x2.toNat) (al 75 rfl hn) (wk75 dy) rfl rfl
    refine v_if_eq 33 rfl (tgt := 111) rfl r6 (fun q10 => ?_) (fun q10 => ?_)
    · have h := h.1 q10
      exact h
    · have h := h.2 q10
      refine v_aload_n 34 0 rfl rfl rfl ?_
      refine v_gK 35 rfl fl12_20_11.r (al 53 rfl hn) (wk53 dy) (by decide) rfl (r := 57) (wc53_6 dy) ?_
      refine v_iload_n 36 2 rfl rfl rfl ?_
      refine v_ia (N := 60) 37 rfl (al 57 rfl hn) (wk57 dy) (wn57 dy) (by decide) c4 (y := g 57 x2.toNat) rfl ?_
      refine v_rng fun w7 => ?_
      have r8 : i3 (g 57 x2.toNat) := rI w7 (q := x2.toNat) (al 57 rfl hn) (wk57 dy) rfl rfl
      refine v_iconst 38 rfl ?_
      refine v_icmp_ne 39 rfl (tgt := 111) rfl r8 (by decide) (fun q9 => ?_) (fun q9 => ?_)
      · have h := h.1 q9
        exact h
      · have h := h.2 q9
        refine v_aload_n 40 0 rfl rfl rfl ?_
        refine v_iload_n 41 1 rfl rfl rfl ?_
        refine v_iload_n 42 2 rfl rfl rfl ?_
        refine v_callV (st := []) [I_ x1, I_ x2] 43 rfl lv12_313_findPairs_11 (al 53 rfl hn) (wk53 dy) (by decide) rfl (Nat.le_refl _) (Nat.le_refl _) ?_
        exact h
set_option maxHeartbeats 8000000 in
set_option maxRecDepth 4000 in
theorem bX12_findPairs_74 {d n : Nat} {dy : Nat → Shp} {g : Hp} {P : Pst} {x1 : Int} {x2 : Int} {xs0 : Int} (hn : 100 ≤ n) (h : (i3 xs0) ∧ ((xs0 = 1) → (0 ≤ g 53 35 ∧ g 53 35 < 1800) ∧ (i3 x1) ∧ (i3 x2) ∧ (i3 ((g 53 35) + 1)) ∧ V miX12_findPairs (d + 1) 111 [(0, .ref 53), (1, I_ x1), (2, I_ x2)] [] n (W0 dy) (up2 (up2 (up2 g 81 ((g 53 35).toNat) x1) 82 ((g 53 35).toNat) x2) 53 35 ((g 53 35) + 1)) 0 0 P) ∧ ((xs0 ≠ 1) → V miX12_findPairs (d + 1) 111 [(0, .ref 53), (1, I_ x1), (2, I_ x2)] [] n (W0 dy) g 0 0 P)) : V miX12_findPairs (d + 1) 74 [(0, .ref 53), (1, I_ x1), (2, I_ x2)] [I_ xs0] n (W0 dy) g 0 0 P := by
  refine v_iconst 44 rfl ?_
  have c1 := h.1
  have h := h.2
  refine v_icmp_eq 45 rfl (tgt := 81) rfl c1 (by decide) (fun q12 => ?_) (fun q12 => ?_)
  · have h := h.1 q12
    refine v_aload_n 47 0 rfl rfl rfl ?_
    refine v_gK 48 rfl fl12_94_11.r (al 53 rfl hn) (wk53 dy) (by decide) rfl (r := 81) (wc53_36 dy) ?_
    refine v_aload_n 49 0 rfl rfl rfl ?_
    refine v_gI 50 rfl fl12_316_11.r (al 53 rfl hn) (wk53 dy) (by decide) rfl (wc53_35 dy) (x := g 53 35) rfl ?_
    refine v_rng fun w2 => ?_
    have r3 : i3 (g 53 35) := rI w2 (q := 35) (al 53 rfl hn) (wk53 dy) rfl rfl
    refine v_iload_n 51 1 rfl rfl rfl ?_
    have c4 := h.1
    have h := h.2
    have c5 := h.1
    have h := h.2
    refine v_iast (N := 1800) 52 rfl (al 81 rfl hn) (wk81 dy) (wn81 dy) (by decide) c4 c5 ?_
    refine v_aload_n 53 0 rfl rfl rfl ?_
    refine v_gK 54 rfl fl12_97_11.r (al 53 rfl hn) (wk53 dy) (by decide) rfl (r := 82) (wc53_37 dy) ?_
    refine v_aload_n 55 0 rfl rfl rfl ?_
    refine v_gI 56 rfl fl12_316_11.r (al 53 rfl hn) (wk53 dy) (by decide) rfl (wc53_35 dy) (x := g 53 35) rfl ?_
    refine v_rng fun w6 => ?_
    have r7 : i3 (g 53 35) := rI w6 (q := 35) (al 53 rfl hn) (wk53 dy) rfl rfl
    refine v_iload_n 57 2 rfl rfl rfl ?_
    have c8 := h.1
    have h := h.2
    refine v_iast (N := 1800) 58 rfl (al 82 rfl hn) (wk82 dy) (wn82 dy) (by decide) c4 c8 ?_
    refine v_aload_n 59 0 rfl rfl rfl ?_
    refine v_dup 60 rfl (by intro h; cases h) ?_
    refine v_gI 61 rfl fl12_316_11.r (al 53 rfl hn) (wk53 dy) (by decide) rfl (wc53_35 dy) (x := g 53 35) rfl ?_
    refine v_rng fun w9 => ?_
    have r10 : i3 (g 53 35) := rI w9 (q := 35) (al 53 rfl hn) (wk53 dy) rfl rfl
    refine v_iconst 62 rfl ?_
    refine v_iadd 63 rfl ?_
    have c11 := h.1
    have h := h.2
    refine v_putI 64 rfl fl12_316_11 (al 53 rfl hn) (wk53 dy) (by decide) rfl (wc53_35 dy) c11 ?_
    exact h
  · have h := h.2 q12
    refine v_goto 46 rfl (tgt := 111) rfl ?_
    exact h
set_option maxHeartbeats 8000000 in
set_option maxRecDepth 4000 in
theorem bX12_findPairs_111 {d n : Nat} {dy : Nat → Shp} {g : Hp} {P : Pst} {x1 : Int} {x2 : Int} (hn : 100 ≤ n) (h : V miX12_findPairs (d + 1) 41 [(0, .ref 53), (1, I_ x1), (2, I_ (x2 + 1))] [] n (W0 dy) g 0 0 P) : V miX12_findPairs (d + 1) 111 [(0, .ref 53), (1, I_ x1), (2, I_ x2)] [] n (W0 dy) g 0 0 P := by
  refine v_iinc 65 2 [1, 2, 0] rfl rfl (by decide) rfl ?_
  refine v_goto 66 rfl (tgt := 41) rfl ?_
  exact h
set_option maxHeartbeats 8000000 in
set_option maxRecDepth 4000 in
theorem bX12_findPairs_117 {d n : Nat} {dy : Nat → Shp} {g : Hp} {P : Pst} {x1 : Int} (hn : 100 ≤ n) (h : V miX12_findPairs (d + 1) 7 [(0, .ref 53), (1, I_ (x1 + 1))] [] n (W0 dy) g 0 0 P) : V miX12_findPairs (d + 1) 117 [(0, .ref 53), (1, I_ x1)] [] n (W0 dy) g 0 0 P := by
  refine v_iinc 67 1 [1, 0] rfl rfl (by decide) rfl ?_
  refine v_goto 68 rfl (tgt := 7) rfl ?_
  exact h
theorem fl12_100_11 : FL RX12 100 11 38 true (.array .int) := ⟨RX12, TX12, 58, "MobileMakerModel", rfl, rfl, by decide, kf11, tbG_in (List.mem_append_right _ (List.mem_of_getElem? (i := 1165) (by decide +kernel))) rfl, Or.inl rfl, rfl, by decide +kernel, ⟨tyX12, tyX12_ok⟩, nmX12, fun _ => rfl⟩
theorem fl12_103_11 : FL RX12 103 11 39 true (.array .int) := ⟨RX12, TX12, 58, "MobileMakerModel", rfl, rfl, by decide, kf11, tbG_in (List.mem_append_right _ (List.mem_of_getElem? (i := 1166) (by decide +kernel))) rfl, Or.inl rfl, rfl, by decide +kernel, ⟨tyX12, tyX12_ok⟩, nmX12, fun _ => rfl⟩
set_option maxHeartbeats 8000000 in
set_option maxRecDepth 4000 in
theorem bX12_meets_0 {d n : Nat} {dy : Nat → Shp} {g : Hp} {P : Pst}  (hn : 100 ≤ n) (h : V miX12_meets d 7 [(0, .ref 53), (1, I_ ((g 53 5) - 1))] [] n (W0 dy) g 0 0 P) : V miX12_meets d 0 [(0, .ref 53)] [] n (W0 dy) g 0 0 P := by
  refine v_aload_n 0 0 rfl rfl rfl ?_
  refine v_gI 1 rfl fl12_169_11.r (al 53 rfl hn) (wk53 dy) (by decide) rfl (wc53_5 dy) (x := g 53 5) rfl ?_
  refine v_rng fun w1 => ?_
  have r2 : i3 (g 53 5) := rI w1 (q := 5) (al 53 rfl hn) (wk53 dy) rfl rfl
  refine v_iconst 2 rfl ?_
  refine v_isub 3 rfl ?_
  refine v_istore_n 4 [1, 0] rfl rfl (by decide) rfl ?_
  exact h
set_option maxHeartbeats 8000000 in
set_option maxRecDepth 4000 in
theorem bX12_meets_7 {d n : Nat} {dy : Nat → Shp} {g : Hp} {P : Pst} {x1 : Int} (hn : 100 ≤ n) (h : (i3 x1) ∧ ((x1 < 0) → V miX12_meets d 72 [(0, .ref 53), (1, I_ 0), (2, I_ 0)] [] n (W0 dy) g 0 0 P) ∧ ((0 ≤ x1) → (0 ≤ x1 ∧ x1 < 60) ∧ (0 ≤ g 71 x1.toNat ∧ g 71 x1.toNat < 60) ∧ ((0 ≤ (g 60 ((g 71 x1.toNat).toNat))) → (0 ≤ g 60 ((g 71 x1.toNat).toNat) ∧ g 60 ((g 71 x1.toNat).toNat) < 60) ∧ V miX12_meets d 61 [(0, .ref 53), (1, I_ x1), (2, I_ (g 71 x1.toNat))] [I_ (((g 83 ((g 60 ((g 71 x1.toNat).toNat)).toNat)) + (g 62 ((g 71 x1.toNat).toNat))) + (g 84 ((g 71 x1.toNat).toNat))), I_ (g 71 x1.toNat), .ref 83] n (W0 dy) g 0 0 P) ∧ (((g 60 ((g 71 x1.toNat).toNat)) < 0) → V miX12_meets d 61 [(0, .ref 53), (1, I_ x1), (2, I_ (g 71 x1.toNat))] [I_ 0, I_ (g 71 x1.toNat), .ref 83] n (W0 dy) g 0 0 P))) : V miX12_meets d 7 [(0, .ref 53), (1, I_ x1)] [] n (W0 dy) g 0 0 P := by
  refine v_iload_n 5 1 rfl rfl rfl ?_
  have c1 := h.1
  have h := h.2
  refine v_if_lt 6 rfl (tgt := 68) rfl c1 (fun q18 => ?_) (fun q18 => ?_)
  · have h := h.1 q18
    refine v_iconst 42 rfl ?_
    refine v_istore_n 43 [1, 0] rfl rfl (by decide) rfl ?_
    refine v_iconst 44 rfl ?_
    refine v_istore_n 45 [1, 2, 0] rfl rfl (by decide) rfl ?_
    exact h
  · have h := h.2 q18
    refine v_aload_n 7 0 rfl rfl rfl ?_
    refine v_gK 8 rfl fl12_62_11.r (al 53 rfl hn) (wk53 dy) (by decide) rfl (r := 71) (wc53_20 dy) ?_
    refine v_iload_n 9 1 rfl rfl rfl ?_
    have c2 := h.1
    have h := h.2
    refine v_ia (N := 60) 10 rfl (al 71 rfl hn) (wk71 dy) (wn71 dy) (by decide) c2 (y := g 71 x1.toNat) rfl ?_
    refine v_rng fun w3 => ?_
    have r4 : i3 (g 71 x1.toNat) := rI w3 (q := x1.toNat) (al 71 rfl hn) (wk71 dy) rfl rfl
    refine v_istore_n 11 [1, 2, 0] rfl rfl (by decide) rfl ?_
    refine v_aload_n 12 0 rfl rfl rfl ?_
    refine v_gK 13 rfl fl12_100_11.r (al 53 rfl hn) (wk53 dy) (by decide) rfl (r := 83) (wc53_38 dy) ?_
    refine v_iload_n 14 2 rfl rfl rfl ?_
    refine v_aload_n 15 0 rfl rfl rfl ?_
    refine v_gK 16 rfl fl12_29_11.r (al 53 rfl hn) (wk53 dy) (by decide) rfl (r := 60) (wc53_9 dy) ?_
    refine v_iload_n 17 2 rfl rfl rfl ?_
    have c5 := h.1
    have h := h.2
    refine v_ia (N := 60) 18 rfl (al 60 rfl hn) (wk60 dy) (wn60 dy) (by decide) c5 (y := g 60 ((g 71 x1.toNat).toNat)) rfl ?_
    refine v_rng fun w6 => ?_
    have r7 : i3 (g 60 ((g 71 x1.toNat).toNat)) := rI w6 (q := ((g 71 x1.toNat).toNat)) (al 60 rfl hn) (wk60 dy) rfl rfl
    refine v_if_ge 19 rfl (tgt := 36) rfl r7 (fun q17 => ?_) (fun q17 => ?_)
    · have h := h.1 q17
      refine v_aload_n 22 0 rfl rfl rfl ?_
      refine v_gK 23 rfl fl12_100_11.r (al 53 rfl hn) (wk53 dy) (by decide) rfl (r := 83) (wc53_38 dy) ?_
      refine v_aload_n 24 0 rfl rfl rfl ?_
      refine v_gK 25 rfl fl12_29_11.r (al 53 rfl hn) (wk53 dy) (by decide) rfl (r := 60) (wc53_9 dy) ?_
      refine v_iload_n 26 2 rfl rfl rfl ?_
      refine v_ia (N := 60) 27 rfl (al 60 rfl hn) (wk60 dy) (wn60 dy) (by decide) c5 (y := g 60 ((g 71 x1.toNat).toNat)) rfl ?_
      refine v_rng fun w8 => ?_
      have r9 : i3 (g 60 ((g 71 x1.toNat).toNat)) := rI w8 (q := ((g 71 x1.toNat).toNat)) (al 60 rfl hn) (wk60 dy) rfl rfl
      have c10 := h.1
      have h := h.2
      refine v_ia (N := 60) 28 rfl (al 83 rfl hn) (wk83 dy) (wn83 dy) (by decide) c10 (y := g 83 ((g 60 ((g 71 x1.toNat).toNat)).toNat)) rfl ?_
      refine v_rng fun w11 => ?_
      have r12 : i3 (g 83 ((g 60 ((g 71 x1.toNat).toNat)).toNat)) := rI w11 (q := ((g 60 ((g 71 x1.toNat).toNat)).toNat)) (al 83 rfl hn) (wk83 dy) rfl rfl
      refine v_aload_n 29 0 rfl rfl rfl ?_
      refine v_gK 30 rfl fl12_35_11.r (al 53 rfl hn) (wk53 dy) (by decide) rfl (r := 62) (wc53_11 dy) ?_
      refine v_iload_n 31 2 rfl rfl rfl ?_
      refine v_ia (N := 60) 32 rfl (al 62 rfl hn) (wk62 dy) (wn62 dy) (by decide) c5 (y := g 62 ((g 71 x1.toNat).toNat)) rfl ?_
      refine v_rng fun w13 => ?_
      have r14 : i3 (g 62 ((g 71 x1.toNat).toNat)) := rI w13 (q := ((g 71 x1.toNat).toNat)) (al 62 rfl hn) (wk62 dy) rfl rfl
      refine v_iadd 33 rfl ?_
      refine v_aload_n 34 0 rfl rfl rfl ?_
      refine v_gK 35 rfl fl12_103_11.r (al 53 rfl hn) (wk53 dy) (by decide) rfl (r := 84) (wc53_39 dy) ?_
      refine v_iload_n 36 2 rfl rfl rfl ?_
      refine v_ia (N := 60) 37 rfl (al 84 rfl hn) (wk84 dy) (wn84 dy) (by decide) c5 (y := g 84 ((g 71 x1.toNat).toNat)) rfl ?_
      refine v_rng fun w15 => ?_
      have r16 : i3 (g 84 ((g 71 x1.toNat).toNat)) := rI w15 (q := ((g 71 x1.toNat).toNat)) (al 84 rfl hn) (wk84 dy) rfl rfl
      refine v_iadd 38 rfl ?_
      exact h
    · have h := h.2 q17
      refine v_iconst 20 rfl ?_
      refine v_goto 21 rfl (tgt := 61) rfl ?_
      exact h
set_option maxHeartbeats 8000000 in
set_option maxRecDepth 4000 in
theorem bX12_meets_61 {d n : Nat} {dy : Nat → Shp} {g : Hp} {P : Pst} {x1 : Int} {x2 : Int} {xs1 : Int} {xs2 : Int} (hn : 100 ≤ n) (h : (0 ≤ xs1 ∧ xs1 < 60) ∧ (i3 xs2) ∧ V miX12_meets d 7 [(0, .ref 53), (1, I_ (x1 + (-1)))] [] n (W0 dy) (up2 g 83 xs1.toNat xs2) 0 0 P) : V miX12_meets d 61 [(0, .ref 53), (1, I_ x1), (2, I_ x2)] [I_ xs2, I_ xs1, .ref 83] n (W0 dy) g 0 0 P := by
  have c1 := h.1
  have h := h.2
  have c2 := h.1
  have h := h.2
  refine v_iast (N := 60) 39 rfl (al 83 rfl hn) (wk83 dy) (wn83 dy) (by decide) c1 c2 ?_
  refine v_iinc 40 1 [1, 0, 2] rfl rfl (by decide) rfl ?_
  refine v_goto 41 rfl (tgt := 7) rfl ?_
  refine v_loc [0, 1] rfl ?_
  exact h
set_option maxHeartbeats 8000000 in
set_option maxRecDepth 4000 in
theorem bX12_meets_72 {d n : Nat} {dy : Nat → Shp} {g : Hp} {P : Pst} {x1 : Int} {x2 : Int} (hn : 100 ≤ n) (h : (i3 x2) ∧ (((g 53 35) ≤ x2) → P (some (I_ x1)) n (W0 dy) g) ∧ ((x2 < (g 53 35)) → (0 ≤ x2 ∧ x2 < 1800) ∧ (0 ≤ g 81 x2.toNat ∧ g 81 x2.toNat < 60) ∧ (0 ≤ g 82 x2.toNat ∧ g 82 x2.toNat < 60) ∧ (((g 83 ((g 81 x2.toNat).toNat)) ≠ (g 83 ((g 82 x2.toNat).toNat))) → V miX12_meets d 111 [(0, .ref 53), (1, I_ x1), (2, I_ x2)] [I_ 0, I_ x1] n (W0 dy) g 0 0 P) ∧ (((g 83 ((g 81 x2.toNat).toNat)) = (g 83 ((g 82 x2.toNat).toNat))) → V miX12_meets d 111 [(0, .ref 53), (1, I_ x1), (2, I_ x2)] [I_ 1, I_ x1] n (W0 dy) g 0 0 P))) : V miX12_meets d 72 [(0, .ref 53), (1, I_ x1), (2, I_ x2)] [] n (W0 dy) g 0 0 P := by
  refine v_iload_n 46 2 rfl rfl rfl ?_
  refine v_aload_n 47 0 rfl rfl rfl ?_
  refine v_gI 48 rfl fl12_316_11.r (al 53 rfl hn) (wk53 dy) (by decide) rfl (wc53_35 dy) (x := g 53 35) rfl ?_
  refine v_rng fun w1 => ?_
  have r2 : i3 (g 53 35) := rI w1 (q := 35) (al 53 rfl hn) (wk53 dy) rfl rfl
  have c3 := h.1
  have h := h.2
  refine v_icmp_ge 49 rfl (tgt := 119) rfl c3 r2 (fun q16 => ?_) (fun q16 => ?_)
  · have h := h.1 q16
    refine v_iload_n 73 1 rfl rfl rfl ?_
    exact v_ret (v := some (I_ x1)) 74 rfl (Nat.zero_le _) (Nat.zero_le _) trivial rfl h
  · have h := h.2 q16
    refine v_iload_n 50 1 rfl rfl rfl ?_
    refine v_aload_n 51 0 rfl rfl rfl ?_
    refine v_gK 52 rfl fl12_100_11.r (al 53 rfl hn) (wk53 dy) (by decide) rfl (r := 83) (wc53_38 dy) ?_
    refine v_aload_n 53 0 rfl rfl rfl ?_
    refine v_gK 54 rfl fl12_94_11.r (al 53 rfl hn) (wk53 dy) (by decide) rfl (r := 81) (wc53_36 dy) ?_
    refine v_iload_n 55 2 rfl rfl rfl ?_
    have c4 := h.1
    have h := h.2
    refine v_ia (N := 1800) 56 rfl (al 81 rfl hn) (wk81 dy) (wn81 dy) (by decide) c4 (y := g 81 x2.toNat) rfl ?_
    refine v_rng fun w5 => ?_
    have r6 : i3 (g 81 x2.toNat) := rI w5 (q := x2.toNat) (al 81 rfl hn) (wk81 dy) rfl rfl
    have c7 := h.1
    have h := h.2
    refine v_ia (N := 60) 57 rfl (al 83 rfl hn) (wk83 dy) (wn83 dy) (by decide) c7 (y := g 83 ((g 81 x2.toNat).toNat)) rfl ?_
    refine v_rng fun w8 => ?_
    have r9 : i3 (g 83 ((g 81 x2.toNat).toNat)) := rI w8 (q := ((g 81 x2.toNat).toNat)) (al 83 rfl hn) (wk83 dy) rfl rfl
    refine v_aload_n 58 0 rfl rfl rfl ?_
    refine v_gK 59 rfl fl12_100_11.r (al 53 rfl hn) (wk53 dy) (by decide) rfl (r := 83) (wc53_38 dy) ?_
    refine v_aload_n 60 0 rfl rfl rfl ?_
    refine v_gK 61 rfl fl12_97_11.r (al 53 rfl hn) (wk53 dy) (by decide) rfl (r := 82) (wc53_37 dy) ?_
    refine v_iload_n 62 2 rfl rfl rfl ?_
    refine v_ia (N := 1800) 63 rfl (al 82 rfl hn) (wk82 dy) (wn82 dy) (by decide) c4 (y := g 82 x2.toNat) rfl ?_
    refine v_rng fun w10 => ?_
    have r11 : i3 (g 82 x2.toNat) := rI w10 (q := x2.toNat) (al 82 rfl hn) (wk82 dy) rfl rfl
    have c12 := h.1
    have h := h.2
    refine v_ia (N := 60) 64 rfl (al 83 rfl hn) (wk83 dy) (wn83 dy) (by decide) c12 (y := g 83 ((g 82 x2.toNat).toNat)) rfl ?_
    refine v_rng fun w13 => ?_
    have r14 : i3 (g 83 ((g 82 x2.toNat).toNat)) := rI w13 (q := ((g 82 x2.toNat).toNat)) (al 83 rfl hn) (wk83 dy) rfl rfl
    refine v_icmp_ne 65 rfl (tgt := 110) rfl r9 r14 (fun q15 => ?_) (fun q15 => ?_)
    · have h := h.1 q15
      refine v_iconst 68 rfl ?_
      exact h
    · have h := h.2 q15
      refine v_iconst 66 rfl ?_
      refine v_goto 67 rfl (tgt := 111) rfl ?_
      exact h
set_option maxHeartbeats 8000000 in
set_option maxRecDepth 4000 in
theorem bX12_meets_111 {d n : Nat} {dy : Nat → Shp} {g : Hp} {P : Pst} {x1 : Int} {x2 : Int} {xs0 : Int} {xs1 : Int} (hn : 100 ≤ n) (h : V miX12_meets d 72 [(0, .ref 53), (1, I_ (xs0 + xs1)), (2, I_ (x2 + 1))] [] n (W0 dy) g 0 0 P) : V miX12_meets d 111 [(0, .ref 53), (1, I_ x1), (2, I_ x2)] [I_ xs1, I_ xs0] n (W0 dy) g 0 0 P := by
  refine v_iadd 69 rfl ?_
  refine v_istore_n 70 [1, 0, 2] rfl rfl (by decide) rfl ?_
  refine v_iinc 71 2 [1, 2, 0] rfl rfl (by decide) rfl ?_
  refine v_goto 72 rfl (tgt := 72) rfl ?_
  exact h
set_option maxHeartbeats 8000000 in
set_option maxRecDepth 4000 in
theorem bX12_noMore_0 {d n : Nat} {dy : Nat → Shp} {g : Hp} {P : Pst}  (hn : 100 ≤ n) (h : V miX12_noMore d 2 [(0, .ref 53), (1, I_ 0)] [] n (W0 dy) g 0 0 P) : V miX12_noMore d 0 [(0, .ref 53)] [] n (W0 dy) g 0 0 P := by
  refine v_iconst 0 rfl ?_
  refine v_istore_n 1 [1, 0] rfl rfl (by decide) rfl ?_
  exact h
set_option maxHeartbeats 8000000 in
set_option maxRecDepth 4000 in
theorem bX12_noMore_2 {d n : Nat} {dy : Nat → Shp} {g : Hp} {P : Pst} {x1 : Int} (hn : 100 ≤ n) (h : (i3 x1) ∧ (((g 53 5) ≤ x1) → P none n (W0 dy) g) ∧ ((x1 < (g 53 5)) → (0 ≤ x1 ∧ x1 < 60) ∧ V miX12_noMore d 2 [(0, .ref 53), (1, I_ (x1 + 1))] [] n (W0 dy) (up2 g 84 x1.toNat 0) 0 0 P)) : V miX12_noMore d 2 [(0, .ref 53), (1, I_ x1)] [] n (W0 dy) g 0 0 P := by
  refine v_iload_n 2 1 rfl rfl rfl ?_
  refine v_aload_n 3 0 rfl rfl rfl ?_
  refine v_gI 4 rfl fl12_169_11.r (al 53 rfl hn) (wk53 dy) (by decide) rfl (wc53_5 dy) (x := g 53 5) rfl ?_
  refine v_rng fun w1 => ?_
  have r2 : i3 (g 53 5) := rI w1 (q := 5) (al 53 rfl hn) (wk53 dy) rfl rfl
  have c3 := h.1
  have h := h.2
  refine v_icmp_ge 5 rfl (tgt := 23) rfl c3 r2 (fun q5 => ?_) (fun q5 => ?_)
  · have h := h.1 q5
    exact v_ret (v := none) 13 rfl (Nat.zero_le _) (Nat.zero_le _) trivial rfl h
  · have h := h.2 q5
    refine v_aload_n 6 0 rfl rfl rfl ?_
    refine v_gK 7 rfl fl12_103_11.r (al 53 rfl hn) (wk53 dy) (by decide) rfl (r := 84) (wc53_39 dy) ?_
    refine v_iload_n 8 1 rfl rfl rfl ?_
    refine v_iconst 9 rfl ?_
    have c4 := h.1
    have h := h.2
    refine v_iast (N := 60) 10 rfl (al 84 rfl hn) (wk84 dy) (wn84 dy) (by decide) c4 (by decide) ?_
    refine v_iinc 11 1 [1, 0] rfl rfl (by decide) rfl ?_
    refine v_goto 12 rfl (tgt := 2) rfl ?_
    exact h
theorem lv12_319_clashes_11 : LkV miX12_clashes miX12_wholes 319 1 11 := ⟨⟨⟨tbG_in (List.mem_append_right _ (List.mem_of_getElem? (i := 1565) (by decide +kernel))) rfl, tbG_in (List.mem_append_right _ (List.mem_of_getElem? (i := 9) (by decide +kernel))) rfl, tbG_in (List.mem_append_right _ (List.mem_of_getElem? (i := 1562) (by decide +kernel))) rfl⟩, ⟨by decide +kernel, by decide +kernel, by decide +kernel⟩, by decide⟩, tbG_in (List.mem_append_right _ (List.mem_of_getElem? (i := 1564) (by decide +kernel))) rfl, RX12, TX12, 58, rfl, tbG_in (List.mem_append_left _ (List.mem_of_getElem? (i := 80) (by decide +kernel))) rfl⟩
theorem lv12_252_clashes_11 : LkV miX12_clashes miX12_orders 252 0 11 := ⟨⟨⟨tbG_in (List.mem_append_right _ (List.mem_of_getElem? (i := 1469) (by decide +kernel))) rfl, tbG_in (List.mem_append_right _ (List.mem_of_getElem? (i := 9) (by decide +kernel))) rfl, tbG_in (List.mem_append_right _ (List.mem_of_getElem? (i := 1466) (by decide +kernel))) rfl⟩, ⟨by decide +kernel, by decide +kernel, by decide +kernel⟩, by decide⟩, tbG_in (List.mem_append_right _ (List.mem_of_getElem? (i := 1468) (by decide +kernel))) rfl, RX12, TX12, 58, rfl, tbG_in (List.mem_append_left _ (List.mem_of_getElem? (i := 64) (by decide +kernel))) rfl⟩
theorem lv12_322_clashes_11 : LkV miX12_clashes miX12_findPairs 322 0 11 := ⟨⟨⟨tbG_in (List.mem_append_right _ (List.mem_of_getElem? (i := 1569) (by decide +kernel))) rfl, tbG_in (List.mem_append_right _ (List.mem_of_getElem? (i := 9) (by decide +kernel))) rfl, tbG_in (List.mem_append_right _ (List.mem_of_getElem? (i := 1566) (by decide +kernel))) rfl⟩, ⟨by decide +kernel, by decide +kernel, by decide +kernel⟩, by decide⟩, tbG_in (List.mem_append_right _ (List.mem_of_getElem? (i := 1568) (by decide +kernel))) rfl, RX12, TX12, 58, rfl, tbG_in (List.mem_append_left _ (List.mem_of_getElem? (i := 81) (by decide +kernel))) rfl⟩
theorem lv12_325_clashes_11 : LkV miX12_clashes miX12_noMore 325 0 11 := ⟨⟨⟨tbG_in (List.mem_append_right _ (List.mem_of_getElem? (i := 1573) (by decide +kernel))) rfl, tbG_in (List.mem_append_right _ (List.mem_of_getElem? (i := 9) (by decide +kernel))) rfl, tbG_in (List.mem_append_right _ (List.mem_of_getElem? (i := 1570) (by decide +kernel))) rfl⟩, ⟨by decide +kernel, by decide +kernel, by decide +kernel⟩, by decide⟩, tbG_in (List.mem_append_right _ (List.mem_of_getElem? (i := 1572) (by decide +kernel))) rfl, RX12, TX12, 58, rfl, tbG_in (List.mem_append_left _ (List.mem_of_getElem? (i := 82) (by decide +kernel))) rfl⟩
theorem lv12_328_clashes_11 : LkV miX12_clashes miX12_meets 328 0 11 := ⟨⟨⟨tbG_in (List.mem_append_right _ (List.mem_of_getElem? (i := 1577) (by decide +kernel))) rfl, tbG_in (List.mem_append_right _ (List.mem_of_getElem? (i := 9) (by decide +kernel))) rfl, tbG_in (List.mem_append_right _ (List.mem_of_getElem? (i := 1574) (by decide +kernel))) rfl⟩, ⟨by decide +kernel, by decide +kernel, by decide +kernel⟩, by decide⟩, tbG_in (List.mem_append_right _ (List.mem_of_getElem? (i := 1576) (by decide +kernel))) rfl, RX12, TX12, 58, rfl, tbG_in (List.mem_append_left _ (List.mem_of_getElem? (i := 83) (by decide +kernel))) rfl⟩
set_option maxHeartbeats 8000000 in
set_option maxRecDepth 4000 in
theorem bX12_clashes_0 {d n : Nat} {dy : Nat → Shp} {g : Hp} {P : Pst} {x1 : Int} (hn : 100 ≤ n) (h : Runs miX12_wholes d [.ref 53, I_ x1] n (W0 dy) (up2 g 53 1 0) (fun v n' S' g' => V miX12_clashes (d + 1) 11 [(0, .ref 53), (1, I_ x1)] (v.toList ++ [.ref 53]) n' S' g' 0 0 P)) : V miX12_clashes (d + 1) 0 [(0, .ref 53), (1, I_ x1)] [] n (W0 dy) g 0 0 P := by
  refine v_aload_n 0 0 rfl rfl rfl ?_
  refine v_iconst 1 rfl ?_
  refine v_putI 2 rfl fl12_148_11 (al 53 rfl hn) (wk53 dy) (by decide) rfl (wc53_1 dy) (by decide) ?_
  refine v_aload_n 3 0 rfl rfl rfl ?_
  refine v_aload_n 4 0 rfl rfl rfl ?_
  refine v_iload_n 5 1 rfl rfl rfl ?_
  refine v_callV (st := [.ref 53]) [I_ x1] 6 rfl lv12_319_clashes_11 (al 53 rfl hn) (wk53 dy) (by decide) rfl (Nat.le_refl _) (Nat.le_refl _) ?_
  exact h
set_option maxHeartbeats 8000000 in
set_option maxRecDepth 4000 in
theorem bX12_clashes_11 {d n : Nat} {dy : Nat → Shp} {g : Hp} {P : Pst} {x1 : Int} {xs1 : Int} (hn : 100 ≤ n) (h : (i3 xs1) ∧ ((xs1 ≤ 0) → Runs miX12_orders d [.ref 53] n (W0 dy) (up2 g 53 0 xs1) (fun v n' S' g' => V miX12_clashes (d + 1) 27 [(0, .ref 53), (1, I_ x1)] (v.toList ++ []) n' S' g' 0 0 P)) ∧ ((0 < xs1) → P (some (I_ ((-1)))) n (W0 dy) (up2 g 53 0 xs1))) : V miX12_clashes (d + 1) 11 [(0, .ref 53), (1, I_ x1)] [I_ xs1, .ref 53] n (W0 dy) g 0 0 P := by
  have c1 := h.1
  have h := h.2
  refine v_putI 7 rfl fl12_152_11 (al 53 rfl hn) (wk53 dy) (by decide) rfl (wc53_0 dy) c1 ?_
  refine v_aload_n 8 0 rfl rfl rfl ?_
  refine v_gI 9 rfl fl12_152_11.r (al 53 rfl hn) (wk53 dy) (by decide) rfl (wc53_0 dy) (x := xs1) rfl ?_
  refine v_rng fun w2 => ?_
  have r3 : i3 (xs1) := rI w2 (q := 0) (al 53 rfl hn) (wk53 dy) rfl rfl
  refine v_if_le 10 rfl (tgt := 23) rfl r3 (fun q4 => ?_) (fun q4 => ?_)
  · have h := h.1 q4
    refine v_aload_n 13 0 rfl rfl rfl ?_
    refine v_callV (st := []) [] 14 rfl lv12_252_clashes_11 (al 53 rfl hn) (wk53 dy) (by decide) rfl (Nat.le_refl _) (Nat.le_refl _) ?_
    exact h
  · have h := h.2 q4
    refine v_iconst 11 rfl ?_
    exact v_ret (v := some (I_ ((-1)))) 12 rfl (Nat.zero_le _) (Nat.zero_le _) trivial rfl h
set_option maxHeartbeats 8000000 in
set_option maxRecDepth 4000 in
theorem bX12_clashes_27 {d n : Nat} {dy : Nat → Shp} {g : Hp} {P : Pst} {x1 : Int} (hn : 100 ≤ n) (h : Runs miX12_findPairs d [.ref 53] n (W0 dy) g (fun v n' S' g' => V miX12_clashes (d + 1) 31 [(0, .ref 53), (1, I_ x1)] (v.toList ++ []) n' S' g' 0 0 P)) : V miX12_clashes (d + 1) 27 [(0, .ref 53), (1, I_ x1)] [] n (W0 dy) g 0 0 P := by
  refine v_aload_n 15 0 rfl rfl rfl ?_
  refine v_callV (st := []) [] 16 rfl lv12_322_clashes_11 (al 53 rfl hn) (wk53 dy) (by decide) rfl (Nat.le_refl _) (Nat.le_refl _) ?_
  exact h
set_option maxHeartbeats 8000000 in
set_option maxRecDepth 4000 in
theorem bX12_clashes_31 {d n : Nat} {dy : Nat → Shp} {g : Hp} {P : Pst} {x1 : Int} (hn : 100 ≤ n) (h : Runs miX12_noMore d [.ref 53] n (W0 dy) g (fun v n' S' g' => V miX12_clashes (d + 1) 35 [(0, .ref 53), (1, I_ x1)] (v.toList ++ []) n' S' g' 0 0 P)) : V miX12_clashes (d + 1) 31 [(0, .ref 53), (1, I_ x1)] [] n (W0 dy) g 0 0 P := by
  refine v_aload_n 17 0 rfl rfl rfl ?_
  refine v_callV (st := []) [] 18 rfl lv12_325_clashes_11 (al 53 rfl hn) (wk53 dy) (by decide) rfl (Nat.le_refl _) (Nat.le_refl _) ?_
  exact h
set_option maxHeartbeats 8000000 in
set_option maxRecDepth 4000 in
theorem bX12_clashes_35 {d n : Nat} {dy : Nat → Shp} {g : Hp} {P : Pst} {x1 : Int} (hn : 100 ≤ n) (h : Runs miX12_meets d [.ref 53] n (W0 dy) g (fun v n' S' g' => V miX12_clashes (d + 1) 39 [(0, .ref 53), (1, I_ x1)] (v.toList ++ []) n' S' g' 0 0 P)) : V miX12_clashes (d + 1) 35 [(0, .ref 53), (1, I_ x1)] [] n (W0 dy) g 0 0 P := by
  refine v_aload_n 19 0 rfl rfl rfl ?_
  refine v_callV (st := []) [] 20 rfl lv12_328_clashes_11 (al 53 rfl hn) (wk53 dy) (by decide) rfl (Nat.le_refl _) (Nat.le_refl _) ?_
  exact h
set_option maxHeartbeats 8000000 in
set_option maxRecDepth 4000 in
theorem bX12_clashes_39 {d n : Nat} {dy : Nat → Shp} {g : Hp} {P : Pst} {x1 : Int} {xs0 : Int} (hn : 100 ≤ n) (h : P (some (I_ xs0)) n (W0 dy) g) : V miX12_clashes (d + 1) 39 [(0, .ref 53), (1, I_ x1)] [I_ xs0] n (W0 dy) g 0 0 P := by
  exact v_ret (v := some (I_ xs0)) 21 rfl (Nat.zero_le _) (Nat.zero_le _) trivial rfl h
theorem fl12_106_11 : FL RX12 106 11 40 true (.array .int) := ⟨RX12, TX12, 58, "MobileMakerModel", rfl, rfl, by decide, kf11, tbG_in (List.mem_append_right _ (List.mem_of_getElem? (i := 1167) (by decide +kernel))) rfl, Or.inl rfl, rfl, by decide +kernel, ⟨tyX12, tyX12_ok⟩, nmX12, fun _ => rfl⟩
theorem lv12_319_clear_11 : LkV miX12_clear miX12_wholes 319 1 11 := ⟨⟨⟨tbG_in (List.mem_append_right _ (List.mem_of_getElem? (i := 1565) (by decide +kernel))) rfl, tbG_in (List.mem_append_right _ (List.mem_of_getElem? (i := 9) (by decide +kernel))) rfl, tbG_in (List.mem_append_right _ (List.mem_of_getElem? (i := 1562) (by decide +kernel))) rfl⟩, ⟨by decide +kernel, by decide +kernel, by decide +kernel⟩, by decide⟩, tbG_in (List.mem_append_right _ (List.mem_of_getElem? (i := 1564) (by decide +kernel))) rfl, RX12, TX12, 58, rfl, tbG_in (List.mem_append_left _ (List.mem_of_getElem? (i := 80) (by decide +kernel))) rfl⟩
theorem lv12_252_clear_11 : LkV miX12_clear miX12_orders 252 0 11 := ⟨⟨⟨tbG_in (List.mem_append_right _ (List.mem_of_getElem? (i := 1469) (by decide +kernel))) rfl, tbG_in (List.mem_append_right _ (List.mem_of_getElem? (i := 9) (by decide +kernel))) rfl, tbG_in (List.mem_append_right _ (List.mem_of_getElem? (i := 1466) (by decide +kernel))) rfl⟩, ⟨by decide +kernel, by decide +kernel, by decide +kernel⟩, by decide⟩, tbG_in (List.mem_append_right _ (List.mem_of_getElem? (i := 1468) (by decide +kernel))) rfl, RX12, TX12, 58, rfl, tbG_in (List.mem_append_left _ (List.mem_of_getElem? (i := 64) (by decide +kernel))) rfl⟩
theorem lv12_322_clear_11 : LkV miX12_clear miX12_findPairs 322 0 11 := ⟨⟨⟨tbG_in (List.mem_append_right _ (List.mem_of_getElem? (i := 1569) (by decide +kernel))) rfl, tbG_in (List.mem_append_right _ (List.mem_of_getElem? (i := 9) (by decide +kernel))) rfl, tbG_in (List.mem_append_right _ (List.mem_of_getElem? (i := 1566) (by decide +kernel))) rfl⟩, ⟨by decide +kernel, by decide +kernel, by decide +kernel⟩, by decide⟩, tbG_in (List.mem_append_right _ (List.mem_of_getElem? (i := 1568) (by decide +kernel))) rfl, RX12, TX12, 58, rfl, tbG_in (List.mem_append_left _ (List.mem_of_getElem? (i := 81) (by decide +kernel))) rfl⟩
theorem lv12_174_clear_11 : LkV miX12_clear miX12_refuse 174 1 11 := ⟨⟨⟨tbG_in (List.mem_append_right _ (List.mem_of_getElem? (i := 1351) (by decide +kernel))) rfl, tbG_in (List.mem_append_right _ (List.mem_of_getElem? (i := 9) (by decide +kernel))) rfl, tbG_in (List.mem_append_right _ (List.mem_of_getElem? (i := 1348) (by decide +kernel))) rfl⟩, ⟨by decide +kernel, by decide +kernel, by decide +kernel⟩, by decide⟩, tbG_in (List.mem_append_right _ (List.mem_of_getElem? (i := 1350) (by decide +kernel))) rfl, RX12, TX12, 58, rfl, tbG_in (List.mem_append_left _ (List.mem_of_getElem? (i := 50) (by decide +kernel))) rfl⟩
theorem lv12_325_clear_11 : LkV miX12_clear miX12_noMore 325 0 11 := ⟨⟨⟨tbG_in (List.mem_append_right _ (List.mem_of_getElem? (i := 1573) (by decide +kernel))) rfl, tbG_in (List.mem_append_right _ (List.mem_of_getElem? (i := 9) (by decide +kernel))) rfl, tbG_in (List.mem_append_right _ (List.mem_of_getElem? (i := 1570) (by decide +kernel))) rfl⟩, ⟨by decide +kernel, by decide +kernel, by decide +kernel⟩, by decide⟩, tbG_in (List.mem_append_right _ (List.mem_of_getElem? (i := 1572) (by decide +kernel))) rfl, RX12, TX12, 58, rfl, tbG_in (List.mem_append_left _ (List.mem_of_getElem? (i := 82) (by decide +kernel))) rfl⟩
theorem lv12_331_clear_11 : LkV miX12_clear miX12_areThreads 331 1 11 := ⟨⟨⟨tbG_in (List.mem_append_right _ (List.mem_of_getElem? (i := 1585) (by decide +kernel))) rfl, tbG_in (List.mem_append_right _ (List.mem_of_getElem? (i := 9) (by decide +kernel))) rfl, tbG_in (List.mem_append_right _ (List.mem_of_getElem? (i := 1582) (by decide +kernel))) rfl⟩, ⟨by decide +kernel, by decide +kernel, by decide +kernel⟩, by decide⟩, tbG_in (List.mem_append_right _ (List.mem_of_getElem? (i := 1584) (by decide +kernel))) rfl, RX12, TX12, 58, rfl, tbG_in (List.mem_append_left _ (List.mem_of_getElem? (i := 84) (by decide +kernel))) rfl⟩
theorem lv12_328_clear_11 : LkV miX12_clear miX12_meets 328 0 11 := ⟨⟨⟨tbG_in (List.mem_append_right _ (List.mem_of_getElem? (i := 1577) (by decide +kernel))) rfl, tbG_in (List.mem_append_right _ (List.mem_of_getElem? (i := 9) (by decide +kernel))) rfl, tbG_in (List.mem_append_right _ (List.mem_of_getElem? (i := 1574) (by decide +kernel))) rfl⟩, ⟨by decide +kernel, by decide +kernel, by decide +kernel⟩, by decide⟩, tbG_in (List.mem_append_right _ (List.mem_of_getElem? (i := 1576) (by decide +kernel))) rfl, RX12, TX12, 58, rfl, tbG_in (List.mem_append_left _ (List.mem_of_getElem? (i := 83) (by decide +kernel))) rfl⟩
theorem lv12_334_clear_11 : LkV miX12_clear miX12_lengthen 334 2 11 := ⟨⟨⟨tbG_in (List.mem_append_right _ (List.mem_of_getElem? (i := 1589) (by decide +kernel))) rfl, tbG_in (List.mem_append_right _ (List.mem_of_getElem? (i := 9) (by decide +kernel))) rfl, tbG_in (List.mem_append_right _ (List.mem_of_getElem? (i := 1586) (by decide +kernel))) rfl⟩, ⟨by decide +kernel, by decide +kernel, by decide +kernel⟩, by decide⟩, tbG_in (List.mem_append_right _ (List.mem_of_getElem? (i := 1588) (by decide +kernel))) rfl, RX12, TX12, 58, rfl, tbG_in (List.mem_append_left _ (List.mem_of_getElem? (i := 85) (by decide +kernel))) rfl⟩
theorem lv12_337_clear_11 : LkV miX12_clear miX12_nextChoice 337 1 11 := ⟨⟨⟨tbG_in (List.mem_append_right _ (List.mem_of_getElem? (i := 1593) (by decide +kernel))) rfl, tbG_in (List.mem_append_right _ (List.mem_of_getElem? (i := 9) (by decide +kernel))) rfl, tbG_in (List.mem_append_right _ (List.mem_of_getElem? (i := 1590) (by decide +kernel))) rfl⟩, ⟨by decide +kernel, by decide +kernel, by decide +kernel⟩, by decide⟩, tbG_in (List.mem_append_right _ (List.mem_of_getElem? (i := 1592) (by decide +kernel))) rfl, RX12, TX12, 58, rfl, tbG_in (List.mem_append_left _ (List.mem_of_getElem? (i := 86) (by decide +kernel))) rfl⟩
set_option maxHeartbeats 8000000 in
set_option maxRecDepth 4000 in
theorem bX12_clear_0 {d n : Nat} {dy : Nat → Shp} {g : Hp} {P : Pst} {x1 : Int} (hn : 100 ≤ n) (h : Runs miX12_wholes d [.ref 53, I_ x1] n (W0 dy) (up2 g 53 1 0) (fun v n' S' g' => V miX12_clear (d + 1) 11 [(0, .ref 53), (1, I_ x1)] (v.toList ++ [.ref 53]) n' S' g' 0 0 P)) : V miX12_clear (d + 1) 0 [(0, .ref 53), (1, I_ x1)] [] n (W0 dy) g 0 0 P := by
  refine v_aload_n 0 0 rfl rfl rfl ?_
  refine v_iconst 1 rfl ?_
  refine v_putI 2 rfl fl12_148_11 (al 53 rfl hn) (wk53 dy) (by decide) rfl (wc53_1 dy) (by decide) ?_
  refine v_aload_n 3 0 rfl rfl rfl ?_
  refine v_aload_n 4 0 rfl rfl rfl ?_
  refine v_iload_n 5 1 rfl rfl rfl ?_
  refine v_callV (st := [.ref 53]) [I_ x1] 6 rfl lv12_319_clear_11 (al 53 rfl hn) (wk53 dy) (by decide) rfl (Nat.le_refl _) (Nat.le_refl _) ?_
  exact h
set_option maxHeartbeats 8000000 in
set_option maxRecDepth 4000 in
theorem bX12_clear_11 {d n : Nat} {dy : Nat → Shp} {g : Hp} {P : Pst} {x1 : Int} {xs1 : Int} (hn : 100 ≤ n) (h : (i3 xs1) ∧ ((xs1 ≤ 0) → Runs miX12_orders d [.ref 53] n (W0 dy) (up2 g 53 0 xs1) (fun v n' S' g' => V miX12_clear (d + 1) 27 [(0, .ref 53), (1, I_ x1)] (v.toList ++ []) n' S' g' 0 0 P)) ∧ ((0 < xs1) → P (some (I_ ((-1)))) n (W0 dy) (up2 g 53 0 xs1))) : V miX12_clear (d + 1) 11 [(0, .ref 53), (1, I_ x1)] [I_ xs1, .ref 53] n (W0 dy) g 0 0 P := by
  have c1 := h.1
  have h := h.2
  refine v_putI 7 rfl fl12_152_11 (al 53 rfl hn) (wk53 dy) (by decide) rfl (wc53_0 dy) c1 ?_
  refine v_aload_n 8 0 rfl rfl rfl ?_
  refine v_gI 9 rfl fl12_152_11.r (al 53 rfl hn) (wk53 dy) (by decide) rfl (wc53_0 dy) (x := xs1) rfl ?_
  refine v_rng fun w2 => ?_
  have r3 : i3 (xs1) := rI w2 (q := 0) (al 53 rfl hn) (wk53 dy) rfl rfl
  refine v_if_le 10 rfl (tgt := 23) rfl r3 (fun q4 => ?_) (fun q4 => ?_)
  · have h := h.1 q4
    refine v_aload_n 13 0 rfl rfl rfl ?_
    refine v_callV (st := []) [] 14 rfl lv12_252_clear_11 (al 53 rfl hn) (wk53 dy) (by decide) rfl (Nat.le_refl _) (Nat.le_refl _) ?_
    exact h
  · have h := h.2 q4
    refine v_iconst 11 rfl ?_
    exact v_ret (v := some (I_ ((-1)))) 12 rfl (Nat.zero_le _) (Nat.zero_le _) trivial rfl h
set_option maxHeartbeats 8000000 in
set_option maxRecDepth 4000 in
theorem bX12_clear_27 {d n : Nat} {dy : Nat → Shp} {g : Hp} {P : Pst} {x1 : Int} (hn : 100 ≤ n) (h : Runs miX12_findPairs d [.ref 53] n (W0 dy) g (fun v n' S' g' => V miX12_clear (d + 1) 31 [(0, .ref 53), (1, I_ x1)] (v.toList ++ []) n' S' g' 0 0 P)) : V miX12_clear (d + 1) 27 [(0, .ref 53), (1, I_ x1)] [] n (W0 dy) g 0 0 P := by
  refine v_aload_n 15 0 rfl rfl rfl ?_
  refine v_callV (st := []) [] 16 rfl lv12_322_clear_11 (al 53 rfl hn) (wk53 dy) (by decide) rfl (Nat.le_refl _) (Nat.le_refl _) ?_
  exact h
set_option maxHeartbeats 8000000 in
set_option maxRecDepth 4000 in
theorem bX12_clear_31 {d n : Nat} {dy : Nat → Shp} {g : Hp} {P : Pst} {x1 : Int} (hn : 100 ≤ n) (h : V miX12_clear (d + 1) 35 [(0, .ref 53), (1, I_ x1), (2, I_ 0), (3, I_ 0)] [] n (W0 dy) g 0 0 P) : V miX12_clear (d + 1) 31 [(0, .ref 53), (1, I_ x1)] [] n (W0 dy) g 0 0 P := by
  refine v_iconst 17 rfl ?_
  refine v_istore_n 18 [1, 2, 0] rfl rfl (by decide) rfl ?_
  refine v_iconst 19 rfl ?_
  refine v_istore_n 20 [1, 2, 3, 0] rfl rfl (by decide) rfl ?_
  exact h
set_option maxHeartbeats 8000000 in
set_option maxRecDepth 4000 in
theorem bX12_clear_35 {d n : Nat} {dy : Nat → Shp} {g : Hp} {P : Pst} {x1 : Int} {x2 : Int} {x3 : Int} (hn : 100 ≤ n) (h : (i3 x3) ∧ (((g 53 5) ≤ x3) → V miX12_clear (d + 1) 97 [(0, .ref 53), (1, I_ x1), (2, I_ x2), (3, I_ 0), (4, I_ 0)] [] n (W0 dy) g 0 0 P) ∧ ((x3 < (g 53 5)) → (0 ≤ x3 ∧ x3 < 60) ∧ (((g 75 x3.toNat) = 0) → V miX12_clear (d + 1) 86 [(0, .ref 53), (1, I_ x1), (2, I_ x2), (3, I_ x3)] [] n (W0 dy) g 0 0 P) ∧ (((g 75 x3.toNat) ≠ 0) → (((g 60 x3.toNat) < 0) → V miX12_clear (d + 1) 86 [(0, .ref 53), (1, I_ x1), (2, I_ x2), (3, I_ x3)] [] n (W0 dy) g 0 0 P) ∧ ((0 ≤ (g 60 x3.toNat)) → (((g 62 x3.toNat) < 1000) → (0 ≤ x2 ∧ x2 < 60) ∧ V miX12_clear (d + 1) 86 [(0, .ref 53), (1, I_ x1), (2, I_ (x2 + 1)), (3, I_ x3)] [] n (W0 dy) (up2 g 85 x2.toNat x3) 0 0 P) ∧ ((1000 ≤ (g 62 x3.toNat)) → V miX12_clear (d + 1) 86 [(0, .ref 53), (1, I_ x1), (2, I_ x2), (3, I_ x3)] [] n (W0 dy) g 0 0 P))))) : V miX12_clear (d + 1) 35 [(0, .ref 53), (1, I_ x1), (2, I_ x2), (3, I_ x3)] [] n (W0 dy) g 0 0 P := by
  refine v_iload_n 21 3 rfl rfl rfl ?_
  refine v_aload_n 22 0 rfl rfl rfl ?_
  refine v_gI 23 rfl fl12_169_11.r (al 53 rfl hn) (wk53 dy) (by decide) rfl (wc53_5 dy) (x := g 53 5) rfl ?_
  refine v_rng fun w1 => ?_
  have r2 : i3 (g 53 5) := rI w1 (q := 5) (al 53 rfl hn) (wk53 dy) rfl rfl
  have c3 := h.1
  have h := h.2
  refine v_icmp_ge 24 rfl (tgt := 92) rfl c3 r2 (fun q15 => ?_) (fun q15 => ?_)
  · have h := h.1 q15
    refine v_iconst 50 rfl ?_
    refine v_istore_n 51 [1, 2, 3, 0] rfl rfl (by decide) rfl ?_
    refine v_iconst 52 rfl ?_
    refine v_istore 53 [1, 2, 3, 4, 0] rfl (by decide) rfl ?_
    exact h
  · have h := h.2 q15
    refine v_aload_n 25 0 rfl rfl rfl ?_
    refine v_gK 26 rfl fl12_74_11.r (al 53 rfl hn) (wk53 dy) (by decide) rfl (r := 75) (wc53_24 dy) ?_
    refine v_iload_n 27 3 rfl rfl rfl ?_
    have c4 := h.1
    have h := h.2
    refine v_za (N := 60) 28 rfl (al 75 rfl hn) (wk75 dy) (wn75 dy) (by decide) c4 (y := g 75 x3.toNat) rfl ?_
    refine v_rng fun w5 => ?_
    have r6 : i3 (g 75 x3.toNat) := rI w5 (q := x3.toNat) (al 75 rfl hn) (wk75 dy) rfl rfl
    refine v_if_eq 29 rfl (tgt := 86) rfl r6 (fun q14 => ?_) (fun q14 => ?_)
    · have h := h.1 q14
      exact h
    · have h := h.2 q14
      refine v_aload_n 30 0 rfl rfl rfl ?_
      refine v_gK 31 rfl fl12_29_11.r (al 53 rfl hn) (wk53 dy) (by decide) rfl (r := 60) (wc53_9 dy) ?_
      refine v_iload_n 32 3 rfl rfl rfl ?_
      refine v_ia (N := 60) 33 rfl (al 60 rfl hn) (wk60 dy) (wn60 dy) (by decide) c4 (y := g 60 x3.toNat) rfl ?_
      refine v_rng fun w7 => ?_
      have r8 : i3 (g 60 x3.toNat) := rI w7 (q := x3.toNat) (al 60 rfl hn) (wk60 dy) rfl rfl
      refine v_if_lt 34 rfl (tgt := 86) rfl r8 (fun q13 => ?_) (fun q13 => ?_)
      · have h := h.1 q13
        exact h
      · have h := h.2 q13
        refine v_aload_n 35 0 rfl rfl rfl ?_
        refine v_gK 36 rfl fl12_35_11.r (al 53 rfl hn) (wk53 dy) (by decide) rfl (r := 62) (wc53_11 dy) ?_
        refine v_iload_n 37 3 rfl rfl rfl ?_
        refine v_ia (N := 60) 38 rfl (al 62 rfl hn) (wk62 dy) (wn62 dy) (by decide) c4 (y := g 62 x3.toNat) rfl ?_
        refine v_rng fun w9 => ?_
        have r10 : i3 (g 62 x3.toNat) := rI w9 (q := x3.toNat) (al 62 rfl hn) (wk62 dy) rfl rfl
        refine v_sipush 39 rfl (by decide) ?_
        refine v_icmp_lt 40 rfl (tgt := 76) rfl r10 (by decide) (fun q12 => ?_) (fun q12 => ?_)
        · have h := h.1 q12
          refine v_aload_n 42 0 rfl rfl rfl ?_
          refine v_gK 43 rfl fl12_106_11.r (al 53 rfl hn) (wk53 dy) (by decide) rfl (r := 85) (wc53_40 dy) ?_
          refine v_iload_n 44 2 rfl rfl rfl ?_
          refine v_iload_n 45 3 rfl rfl rfl ?_
          have c11 := h.1
          have h := h.2
          refine v_iast (N := 60) 46 rfl (al 85 rfl hn) (wk85 dy) (wn85 dy) (by decide) c11 c3 ?_
          refine v_iinc 47 2 [1, 2, 0, 3] rfl rfl (by decide) rfl ?_
          exact h
        · have h := h.2 q12
          refine v_goto 41 rfl (tgt := 86) rfl ?_
          exact h
set_option maxHeartbeats 8000000 in
set_option maxRecDepth 4000 in
theorem bX12_clear_86 {d n : Nat} {dy : Nat → Shp} {g : Hp} {P : Pst} {x1 : Int} {x2 : Int} {x3 : Int} (hn : 100 ≤ n) (h : V miX12_clear (d + 1) 35 [(0, .ref 53), (1, I_ x1), (2, I_ x2), (3, I_ (x3 + 1))] [] n (W0 dy) g 0 0 P) : V miX12_clear (d + 1) 86 [(0, .ref 53), (1, I_ x1), (2, I_ x2), (3, I_ x3)] [] n (W0 dy) g 0 0 P := by
  refine v_iinc 48 3 [1, 2, 3, 0] rfl rfl (by decide) rfl ?_
  refine v_goto 49 rfl (tgt := 35) rfl ?_
  exact h
set_option maxHeartbeats 8000000 in
set_option maxRecDepth 4000 in
theorem bX12_clear_97 {d n : Nat} {dy : Nat → Shp} {g : Hp} {P : Pst} {x1 : Int} {x2 : Int} {x3 : Int} {x4 : Int} (hn : 100 ≤ n) (h : (i3 x4) ∧ ((5 < x4) → Runs miX12_refuse d [.ref 53, I_ 11] n (W0 dy) g (fun v n' S' g' => V miX12_clear (d + 1) 207 [(0, .ref 53), (1, I_ x1), (2, I_ x2), (3, I_ x3), (4, I_ x4)] (v.toList ++ []) n' S' g' 0 0 P)) ∧ ((x4 ≤ 5) → Runs miX12_noMore d [.ref 53] n (W0 dy) g (fun v n' S' g' => V miX12_clear (d + 1) 107 [(0, .ref 53), (1, I_ x1), (2, I_ x2), (3, I_ x3), (4, I_ x4)] (v.toList ++ []) n' S' g' 0 0 P))) : V miX12_clear (d + 1) 97 [(0, .ref 53), (1, I_ x1), (2, I_ x2), (3, I_ x3), (4, I_ x4)] [] n (W0 dy) g 0 0 P := by
  refine v_iload 54 4 rfl rfl ?_
  refine v_iconst 55 rfl ?_
  have c1 := h.1
  have h := h.2
  refine v_icmp_gt 56 rfl (tgt := 201) rfl c1 (by decide) (fun q2 => ?_) (fun q2 => ?_)
  · have h := h.1 q2
    refine v_aload_n 106 0 rfl rfl rfl ?_
    refine v_bipush 107 rfl (by decide) ?_
    refine v_callV (st := []) [I_ 11] 108 rfl lv12_174_clear_11 (al 53 rfl hn) (wk53 dy) (by decide) rfl (Nat.le_refl _) (Nat.le_refl _) ?_
    exact h
  · have h := h.2 q2
    refine v_aload_n 57 0 rfl rfl rfl ?_
    refine v_callV (st := []) [] 58 rfl lv12_325_clear_11 (al 53 rfl hn) (wk53 dy) (by decide) rfl (Nat.le_refl _) (Nat.le_refl _) ?_
    exact h
set_option maxHeartbeats 8000000 in
set_option maxRecDepth 4000 in
theorem bX12_clear_107 {d n : Nat} {dy : Nat → Shp} {g : Hp} {P : Pst} {x1 : Int} {x2 : Int} {x3 : Int} {x4 : Int} (hn : 100 ≤ n) (h : (i3 x2) ∧ ((0 < x2) → V miX12_clear (d + 1) 116 [(0, .ref 53), (1, I_ x1), (2, I_ x2), (3, I_ x3), (4, I_ x4)] [] n (W0 dy) g 0 0 P) ∧ ((x2 ≤ 0) → (i3 x4) ∧ ((x4 ≠ 0) → V miX12_clear (d + 1) 121 [(0, .ref 53), (1, I_ x1), (2, I_ x2), (3, I_ x3), (4, I_ x4)] [I_ 0] n (W0 dy) g 0 0 P) ∧ ((x4 = 0) → V miX12_clear (d + 1) 116 [(0, .ref 53), (1, I_ x1), (2, I_ x2), (3, I_ x3), (4, I_ x4)] [] n (W0 dy) g 0 0 P))) : V miX12_clear (d + 1) 107 [(0, .ref 53), (1, I_ x1), (2, I_ x2), (3, I_ x3), (4, I_ x4)] [] n (W0 dy) g 0 0 P := by
  refine v_iload_n 59 2 rfl rfl rfl ?_
  have c1 := h.1
  have h := h.2
  refine v_if_gt 60 rfl (tgt := 116) rfl c1 (fun q4 => ?_) (fun q4 => ?_)
  · have h := h.1 q4
    exact h
  · have h := h.2 q4
    refine v_iload 61 4 rfl rfl ?_
    have c2 := h.1
    have h := h.2
    refine v_if_ne 62 rfl (tgt := 120) rfl c2 (fun q3 => ?_) (fun q3 => ?_)
    · have h := h.1 q3
      refine v_iconst 65 rfl ?_
      exact h
    · have h := h.2 q3
      exact h
set_option maxHeartbeats 8000000 in
set_option maxRecDepth 4000 in
theorem bX12_clear_116 {d n : Nat} {dy : Nat → Shp} {g : Hp} {P : Pst} {x1 : Int} {x2 : Int} {x3 : Int} {x4 : Int} (hn : 100 ≤ n) (h : V miX12_clear (d + 1) 121 [(0, .ref 53), (1, I_ x1), (2, I_ x2), (3, I_ x3), (4, I_ x4)] [I_ 1] n (W0 dy) g 0 0 P) : V miX12_clear (d + 1) 116 [(0, .ref 53), (1, I_ x1), (2, I_ x2), (3, I_ x3), (4, I_ x4)] [] n (W0 dy) g 0 0 P := by
  refine v_iconst 63 rfl ?_
  refine v_goto 64 rfl (tgt := 121) rfl ?_
  exact h
set_option maxHeartbeats 8000000 in
set_option maxRecDepth 4000 in
theorem bX12_clear_121 {d n : Nat} {dy : Nat → Shp} {g : Hp} {P : Pst} {x1 : Int} {x2 : Int} {x3 : Int} {x4 : Int} {xs0 : Int} (hn : 100 ≤ n) (h : (i3 x2) ∧ ((x2 ≤ 0) → V miX12_clear (d + 1) 140 [(0, .ref 53), (1, I_ x1), (2, I_ x2), (3, I_ x3), (4, I_ x4), (5, I_ xs0)] [] n (W0 dy) g 0 0 P) ∧ ((0 < x2) → (0 ≤ g 85 0 ∧ g 85 0 < 60) ∧ (i3 x4) ∧ V miX12_clear (d + 1) 140 [(0, .ref 53), (1, I_ x1), (2, I_ x2), (3, I_ x3), (4, I_ x4), (5, I_ xs0)] [] n (W0 dy) (up2 g 84 ((g 85 0).toNat) x4) 0 0 P)) : V miX12_clear (d + 1) 121 [(0, .ref 53), (1, I_ x1), (2, I_ x2), (3, I_ x3), (4, I_ x4)] [I_ xs0] n (W0 dy) g 0 0 P := by
  refine v_istore 66 [1, 2, 3, 4, 5, 0] rfl (by decide) rfl ?_
  refine v_iload_n 67 2 rfl rfl rfl ?_
  have c1 := h.1
  have h := h.2
  refine v_if_le 68 rfl (tgt := 140) rfl c1 (fun q6 => ?_) (fun q6 => ?_)
  · have h := h.1 q6
    exact h
  · have h := h.2 q6
    refine v_aload_n 69 0 rfl rfl rfl ?_
    refine v_gK 70 rfl fl12_103_11.r (al 53 rfl hn) (wk53 dy) (by decide) rfl (r := 84) (wc53_39 dy) ?_
    refine v_aload_n 71 0 rfl rfl rfl ?_
    refine v_gK 72 rfl fl12_106_11.r (al 53 rfl hn) (wk53 dy) (by decide) rfl (r := 85) (wc53_40 dy) ?_
    refine v_iconst 73 rfl ?_
    refine v_ia (N := 60) 74 rfl (al 85 rfl hn) (wk85 dy) (wn85 dy) (by decide) (by decide) (y := g 85 0) rfl ?_
    refine v_rng fun w2 => ?_
    have r3 : i3 (g 85 0) := rI w2 (q := 0) (al 85 rfl hn) (wk85 dy) rfl rfl
    refine v_iload 75 4 rfl rfl ?_
    have c4 := h.1
    have h := h.2
    have c5 := h.1
    have h := h.2
    refine v_iast (N := 60) 76 rfl (al 84 rfl hn) (wk84 dy) (wn84 dy) (by decide) c4 c5 ?_
    exact h
set_option maxHeartbeats 8000000 in
set_option maxRecDepth 4000 in
theorem bX12_clear_140 {d n : Nat} {dy : Nat → Shp} {g : Hp} {P : Pst} {x1 : Int} {x2 : Int} {x3 : Int} {x4 : Int} {x5 : Int} (hn : 100 ≤ n) (h : (i3 x5) ∧ ((x5 = 0) → V miX12_clear (d + 1) 97 [(0, .ref 53), (1, I_ x1), (2, I_ x2), (3, I_ x3), (4, I_ (x4 + 1))] [] n (W0 dy) g 0 0 P) ∧ ((x5 ≠ 0) → Runs miX12_areThreads d [.ref 53, I_ x2] n (W0 dy) g (fun v n' S' g' => V miX12_clear (d + 1) 150 [(0, .ref 53), (1, I_ x1), (2, I_ x2), (3, I_ x3), (4, I_ x4), (5, I_ x5)] (v.toList ++ []) n' S' g' 0 0 P))) : V miX12_clear (d + 1) 140 [(0, .ref 53), (1, I_ x1), (2, I_ x2), (3, I_ x3), (4, I_ x4), (5, I_ x5)] [] n (W0 dy) g 0 0 P := by
  refine v_iload 77 5 rfl rfl ?_
  have c1 := h.1
  have h := h.2
  refine v_if_eq 78 rfl (tgt := 195) rfl c1 (fun q2 => ?_) (fun q2 => ?_)
  · have h := h.1 q2
    refine v_iinc 104 4 [1, 2, 3, 4, 0, 5] rfl rfl (by decide) rfl ?_
    refine v_goto 105 rfl (tgt := 97) rfl ?_
    refine v_loc [0, 1, 2, 3, 4] rfl ?_
    exact h
  · have h := h.2 q2
    refine v_aload_n 79 0 rfl rfl rfl ?_
    refine v_iload_n 80 2 rfl rfl rfl ?_
    refine v_callV (st := []) [I_ x2] 81 rfl lv12_331_clear_11 (al 53 rfl hn) (wk53 dy) (by decide) rfl (Nat.le_refl _) (Nat.le_refl _) ?_
    exact h
set_option maxHeartbeats 8000000 in
set_option maxRecDepth 4000 in
theorem bX12_clear_150 {d n : Nat} {dy : Nat → Shp} {g : Hp} {P : Pst} {x1 : Int} {x2 : Int} {x3 : Int} {x4 : Int} {x5 : Int} {xs0 : Int} (hn : 100 ≤ n) (h : (i3 xs0) ∧ ((xs0 = 0) → V miX12_clear (d + 1) 185 [(0, .ref 53), (1, I_ x1), (2, I_ x2), (3, I_ x3), (4, I_ x4), (5, I_ x5)] [] n (W0 dy) g 0 0 P) ∧ ((xs0 ≠ 0) → (i3 x3) ∧ ((x3 ≠ 20000) → Runs miX12_meets d [.ref 53] n (W0 dy) g (fun v n' S' g' => V miX12_clear (d + 1) 174 [(0, .ref 53), (1, I_ x1), (2, I_ x2), (3, I_ (x3 + 1)), (4, I_ x4), (5, I_ x5)] (v.toList ++ []) n' S' g' 0 0 P)) ∧ ((x3 = 20000) → Runs miX12_refuse d [.ref 53, I_ 10] n (W0 dy) g (fun v n' S' g' => V miX12_clear (d + 1) 166 [(0, .ref 53), (1, I_ x1), (2, I_ x2), (3, I_ x3), (4, I_ x4), (5, I_ x5)] (v.toList ++ []) n' S' g' 0 0 P)))) : V miX12_clear (d + 1) 150 [(0, .ref 53), (1, I_ x1), (2, I_ x2), (3, I_ x3), (4, I_ x4), (5, I_ x5)] [I_ xs0] n (W0 dy) g 0 0 P := by
  have c1 := h.1
  have h := h.2
  refine v_if_eq 82 rfl (tgt := 185) rfl c1 (fun q4 => ?_) (fun q4 => ?_)
  · have h := h.1 q4
    exact h
  · have h := h.2 q4
    refine v_iload_n 83 3 rfl rfl rfl ?_
    refine v_sipush 84 rfl (by decide) ?_
    have c2 := h.1
    have h := h.2
    refine v_icmp_ne 85 rfl (tgt := 167) rfl c2 (by decide) (fun q3 => ?_) (fun q3 => ?_)
    · have h := h.1 q3
      refine v_iinc 90 3 [1, 2, 3, 0, 4, 5] rfl rfl (by decide) rfl ?_
      refine v_aload_n 91 0 rfl rfl rfl ?_
      refine v_callV (st := []) [] 92 rfl lv12_328_clear_11 (al 53 rfl hn) (wk53 dy) (by decide) rfl (Nat.le_refl _) (Nat.le_refl _) ?_
      exact h
    · have h := h.2 q3
      refine v_aload_n 86 0 rfl rfl rfl ?_
      refine v_bipush 87 rfl (by decide) ?_
      refine v_callV (st := []) [I_ 10] 88 rfl lv12_174_clear_11 (al 53 rfl hn) (wk53 dy) (by decide) rfl (Nat.le_refl _) (Nat.le_refl _) ?_
      exact h
set_option maxHeartbeats 8000000 in
set_option maxRecDepth 4000 in
theorem bX12_clear_166 {d n : Nat} {dy : Nat → Shp} {g : Hp} {P : Pst} {x1 : Int} {x2 : Int} {x3 : Int} {x4 : Int} {x5 : Int} {xs0 : Int} (hn : 100 ≤ n) (h : P (some (I_ xs0)) n (W0 dy) g) : V miX12_clear (d + 1) 166 [(0, .ref 53), (1, I_ x1), (2, I_ x2), (3, I_ x3), (4, I_ x4), (5, I_ x5)] [I_ xs0] n (W0 dy) g 0 0 P := by
  exact v_ret (v := some (I_ xs0)) 89 rfl (Nat.zero_le _) (Nat.zero_le _) trivial rfl h
set_option maxHeartbeats 8000000 in
set_option maxRecDepth 4000 in
theorem bX12_clear_174 {d n : Nat} {dy : Nat → Shp} {g : Hp} {P : Pst} {x1 : Int} {x2 : Int} {x3 : Int} {x4 : Int} {x5 : Int} {xs0 : Int} (hn : 100 ≤ n) (h : (i3 xs0) ∧ ((xs0 ≠ 0) → V miX12_clear (d + 1) 185 [(0, .ref 53), (1, I_ x1), (2, I_ x2), (3, I_ x3), (4, I_ x4), (5, I_ x5)] [] n (W0 dy) g 0 0 P) ∧ ((xs0 = 0) → Runs miX12_lengthen d [.ref 53, I_ x2, I_ x4] n (W0 dy) g (fun v n' S' g' => V miX12_clear (d + 1) 184 [(0, .ref 53), (1, I_ x1), (2, I_ x2), (3, I_ x3), (4, I_ x4), (5, I_ x5)] (v.toList ++ []) n' S' g' 0 0 P))) : V miX12_clear (d + 1) 174 [(0, .ref 53), (1, I_ x1), (2, I_ x2), (3, I_ x3), (4, I_ x4), (5, I_ x5)] [I_ xs0] n (W0 dy) g 0 0 P := by
  have c1 := h.1
  have h := h.2
  refine v_if_ne 93 rfl (tgt := 185) rfl c1 (fun q2 => ?_) (fun q2 => ?_)
  · have h := h.1 q2
    exact h
  · have h := h.2 q2
    refine v_aload_n 94 0 rfl rfl rfl ?_
    refine v_iload_n 95 2 rfl rfl rfl ?_
    refine v_iload 96 4 rfl rfl ?_
    refine v_callV (st := []) [I_ x2, I_ x4] 97 rfl lv12_334_clear_11 (al 53 rfl hn) (wk53 dy) (by decide) rfl (Nat.le_refl _) (Nat.le_refl _) ?_
    exact h
set_option maxHeartbeats 8000000 in
set_option maxRecDepth 4000 in
theorem bX12_clear_184 {d n : Nat} {dy : Nat → Shp} {g : Hp} {P : Pst} {x1 : Int} {x2 : Int} {x3 : Int} {x4 : Int} {x5 : Int} {xs0 : Int} (hn : 100 ≤ n) (h : P (some (I_ xs0)) n (W0 dy) g) : V miX12_clear (d + 1) 184 [(0, .ref 53), (1, I_ x1), (2, I_ x2), (3, I_ x3), (4, I_ x4), (5, I_ x5)] [I_ xs0] n (W0 dy) g 0 0 P := by
  exact v_ret (v := some (I_ xs0)) 98 rfl (Nat.zero_le _) (Nat.zero_le _) trivial rfl h
set_option maxHeartbeats 8000000 in
set_option maxRecDepth 4000 in
theorem bX12_clear_185 {d n : Nat} {dy : Nat → Shp} {g : Hp} {P : Pst} {x1 : Int} {x2 : Int} {x3 : Int} {x4 : Int} {x5 : Int} (hn : 100 ≤ n) (h : Runs miX12_nextChoice d [.ref 53, I_ x2] n (W0 dy) g (fun v n' S' g' => V miX12_clear (d + 1) 190 [(0, .ref 53), (1, I_ x1), (2, I_ x2), (3, I_ x3), (4, I_ x4), (5, I_ x5)] (v.toList ++ []) n' S' g' 0 0 P)) : V miX12_clear (d + 1) 185 [(0, .ref 53), (1, I_ x1), (2, I_ x2), (3, I_ x3), (4, I_ x4), (5, I_ x5)] [] n (W0 dy) g 0 0 P := by
  refine v_aload_n 99 0 rfl rfl rfl ?_
  refine v_iload_n 100 2 rfl rfl rfl ?_
  refine v_callV (st := []) [I_ x2] 101 rfl lv12_337_clear_11 (al 53 rfl hn) (wk53 dy) (by decide) rfl (Nat.le_refl _) (Nat.le_refl _) ?_
  exact h
set_option maxHeartbeats 8000000 in
set_option maxRecDepth 4000 in
theorem bX12_clear_190 {d n : Nat} {dy : Nat → Shp} {g : Hp} {P : Pst} {x1 : Int} {x2 : Int} {x3 : Int} {x4 : Int} {x5 : Int} {xs0 : Int} (hn : 100 ≤ n) (h : V miX12_clear (d + 1) 140 [(0, .ref 53), (1, I_ x1), (2, I_ x2), (3, I_ x3), (4, I_ x4), (5, I_ xs0)] [] n (W0 dy) g 0 0 P) : V miX12_clear (d + 1) 190 [(0, .ref 53), (1, I_ x1), (2, I_ x2), (3, I_ x3), (4, I_ x4), (5, I_ x5)] [I_ xs0] n (W0 dy) g 0 0 P := by
  refine v_istore 102 [1, 2, 3, 4, 5, 0] rfl (by decide) rfl ?_
  refine v_goto 103 rfl (tgt := 140) rfl ?_
  exact h
set_option maxHeartbeats 8000000 in
set_option maxRecDepth 4000 in
theorem bX12_clear_207 {d n : Nat} {dy : Nat → Shp} {g : Hp} {P : Pst} {x1 : Int} {x2 : Int} {x3 : Int} {x4 : Int} {xs0 : Int} (hn : 100 ≤ n) (h : P (some (I_ xs0)) n (W0 dy) g) : V miX12_clear (d + 1) 207 [(0, .ref 53), (1, I_ x1), (2, I_ x2), (3, I_ x3), (4, I_ x4)] [I_ xs0] n (W0 dy) g 0 0 P := by
  exact v_ret (v := some (I_ xs0)) 109 rfl (Nat.zero_le _) (Nat.zero_le _) trivial rfl h
set_option maxHeartbeats 8000000 in
set_option maxRecDepth 4000 in
theorem bX12_areThreads_0 {d n : Nat} {dy : Nat → Shp} {g : Hp} {P : Pst} {x1 : Int} (hn : 100 ≤ n) (h : V miX12_areThreads d 2 [(0, .ref 53), (1, I_ x1), (2, I_ 0)] [] n (W0 dy) g 0 0 P) : V miX12_areThreads d 0 [(0, .ref 53), (1, I_ x1)] [] n (W0 dy) g 0 0 P := by
  refine v_iconst 0 rfl ?_
  refine v_istore_n 1 [1, 2, 0] rfl rfl (by decide) rfl ?_
  exact h
set_option maxHeartbeats 8000000 in
set_option maxRecDepth 4000 in
theorem bX12_areThreads_2 {d n : Nat} {dy : Nat → Shp} {g : Hp} {P : Pst} {x1 : Int} {x2 : Int} (hn : 100 ≤ n) (h : (i3 x2) ∧ (i3 x1) ∧ ((x1 ≤ x2) → P (some (I_ 1)) n (W0 dy) g) ∧ ((x2 < x1) → (0 ≤ x2 ∧ x2 < 60) ∧ (0 ≤ g 85 x2.toNat ∧ g 85 x2.toNat < 60) ∧ (i3 ((g 62 ((g 85 x2.toNat).toNat)) + (g 84 ((g 85 x2.toNat).toNat)))) ∧ ((((g 62 ((g 85 x2.toNat).toNat)) + (g 84 ((g 85 x2.toNat).toNat))) ≤ 1000) → V miX12_areThreads d 2 [(0, .ref 53), (1, I_ x1), (2, I_ (x2 + 1))] [] n (W0 dy) g 0 0 P) ∧ ((1000 < ((g 62 ((g 85 x2.toNat).toNat)) + (g 84 ((g 85 x2.toNat).toNat)))) → P (some (I_ 0)) n (W0 dy) g))) : V miX12_areThreads d 2 [(0, .ref 53), (1, I_ x1), (2, I_ x2)] [] n (W0 dy) g 0 0 P := by
  refine v_iload_n 2 2 rfl rfl rfl ?_
  refine v_iload_n 3 1 rfl rfl rfl ?_
  have c1 := h.1
  have h := h.2
  have c2 := h.1
  have h := h.2
  refine v_icmp_ge 4 rfl (tgt := 44) rfl c1 c2 (fun q15 => ?_) (fun q15 => ?_)
  · have h := h.1 q15
    refine v_iconst 26 rfl ?_
    exact v_ret (v := some (I_ 1)) 27 rfl (Nat.zero_le _) (Nat.zero_le _) (Or.inr rfl) rfl h
  · have h := h.2 q15
    refine v_aload_n 5 0 rfl rfl rfl ?_
    refine v_gK 6 rfl fl12_35_11.r (al 53 rfl hn) (wk53 dy) (by decide) rfl (r := 62) (wc53_11 dy) ?_
    refine v_aload_n 7 0 rfl rfl rfl ?_
    refine v_gK 8 rfl fl12_106_11.r (al 53 rfl hn) (wk53 dy) (by decide) rfl (r := 85) (wc53_40 dy) ?_
    refine v_iload_n 9 2 rfl rfl rfl ?_
    have c3 := h.1
    have h := h.2
    refine v_ia (N := 60) 10 rfl (al 85 rfl hn) (wk85 dy) (wn85 dy) (by decide) c3 (y := g 85 x2.toNat) rfl ?_
    refine v_rng fun w4 => ?_
    have r5 : i3 (g 85 x2.toNat) := rI w4 (q := x2.toNat) (al 85 rfl hn) (wk85 dy) rfl rfl
    have c6 := h.1
    have h := h.2
    refine v_ia (N := 60) 11 rfl (al 62 rfl hn) (wk62 dy) (wn62 dy) (by decide) c6 (y := g 62 ((g 85 x2.toNat).toNat)) rfl ?_
    refine v_rng fun w7 => ?_
    have r8 : i3 (g 62 ((g 85 x2.toNat).toNat)) := rI w7 (q := ((g 85 x2.toNat).toNat)) (al 62 rfl hn) (wk62 dy) rfl rfl
    refine v_aload_n 12 0 rfl rfl rfl ?_
    refine v_gK 13 rfl fl12_103_11.r (al 53 rfl hn) (wk53 dy) (by decide) rfl (r := 84) (wc53_39 dy) ?_
    refine v_aload_n 14 0 rfl rfl rfl ?_
    refine v_gK 15 rfl fl12_106_11.r (al 53 rfl hn) (wk53 dy) (by decide) rfl (r := 85) (wc53_40 dy) ?_
    refine v_iload_n 16 2 rfl rfl rfl ?_
    refine v_ia (N := 60) 17 rfl (al 85 rfl hn) (wk85 dy) (wn85 dy) (by decide) c3 (y := g 85 x2.toNat) rfl ?_
    refine v_rng fun w9 => ?_
    have r10 : i3 (g 85 x2.toNat) := rI w9 (q := x2.toNat) (al 85 rfl hn) (wk85 dy) rfl rfl
    refine v_ia (N := 60) 18 rfl (al 84 rfl hn) (wk84 dy) (wn84 dy) (by decide) c6 (y := g 84 ((g 85 x2.toNat).toNat)) rfl ?_
    refine v_rng fun w11 => ?_
    have r12 : i3 (g 84 ((g 85 x2.toNat).toNat)) := rI w11 (q := ((g 85 x2.toNat).toNat)) (al 84 rfl hn) (wk84 dy) rfl rfl
    refine v_iadd 19 rfl ?_
    refine v_sipush 20 rfl (by decide) ?_
    have c13 := h.1
    have h := h.2
    refine v_icmp_le 21 rfl (tgt := 38) rfl c13 (by decide) (fun q14 => ?_) (fun q14 => ?_)
    · have h := h.1 q14
      refine v_iinc 24 2 [1, 2, 0] rfl rfl (by decide) rfl ?_
      refine v_goto 25 rfl (tgt := 2) rfl ?_
      exact h
    · have h := h.2 q14
      refine v_iconst 22 rfl ?_
      exact v_ret (v := some (I_ 0)) 23 rfl (Nat.zero_le _) (Nat.zero_le _) (Or.inl rfl) rfl h
set_option maxHeartbeats 8000000 in
set_option maxRecDepth 4000 in
theorem bX12_lengthen_0 {d n : Nat} {dy : Nat → Shp} {g : Hp} {P : Pst} {x1 : Int} {x2 : Int} (hn : 100 ≤ n) (h : V miX12_lengthen d 2 [(0, .ref 53), (1, I_ x1), (2, I_ x2), (3, I_ 0)] [] n (W0 dy) g 0 0 P) : V miX12_lengthen d 0 [(0, .ref 53), (1, I_ x1), (2, I_ x2)] [] n (W0 dy) g 0 0 P := by
  refine v_iconst 0 rfl ?_
  refine v_istore_n 1 [1, 2, 3, 0] rfl rfl (by decide) rfl ?_
  exact h
set_option maxHeartbeats 8000000 in
set_option maxRecDepth 4000 in
theorem bX12_lengthen_2 {d n : Nat} {dy : Nat → Shp} {g : Hp} {P : Pst} {x1 : Int} {x2 : Int} {x3 : Int} (hn : 100 ≤ n) (h : (i3 x3) ∧ (i3 x1) ∧ ((x1 ≤ x3) → P (some (I_ x2)) n (W0 dy) g) ∧ ((x3 < x1) → (0 ≤ x3 ∧ x3 < 60) ∧ (0 ≤ g 85 x3.toNat ∧ g 85 x3.toNat < 60) ∧ (i3 ((g 62 ((g 85 x3.toNat).toNat)) + (g 84 ((g 85 x3.toNat).toNat)))) ∧ V miX12_lengthen d 2 [(0, .ref 53), (1, I_ x1), (2, I_ x2), (3, I_ (x3 + 1))] [] n (W0 dy) (up2 g 62 ((g 85 x3.toNat).toNat) ((g 62 ((g 85 x3.toNat).toNat)) + (g 84 ((g 85 x3.toNat).toNat)))) 0 0 P)) : V miX12_lengthen d 2 [(0, .ref 53), (1, I_ x1), (2, I_ x2), (3, I_ x3)] [] n (W0 dy) g 0 0 P := by
  refine v_iload_n 2 3 rfl rfl rfl ?_
  refine v_iload_n 3 1 rfl rfl rfl ?_
  have c1 := h.1
  have h := h.2
  have c2 := h.1
  have h := h.2
  refine v_icmp_ge 4 rfl (tgt := 38) rfl c1 c2 (fun q14 => ?_) (fun q14 => ?_)
  · have h := h.1 q14
    refine v_iload_n 24 2 rfl rfl rfl ?_
    exact v_ret (v := some (I_ x2)) 25 rfl (Nat.zero_le _) (Nat.zero_le _) trivial rfl h
  · have h := h.2 q14
    refine v_aload_n 5 0 rfl rfl rfl ?_
    refine v_gK 6 rfl fl12_35_11.r (al 53 rfl hn) (wk53 dy) (by decide) rfl (r := 62) (wc53_11 dy) ?_
    refine v_aload_n 7 0 rfl rfl rfl ?_
    refine v_gK 8 rfl fl12_106_11.r (al 53 rfl hn) (wk53 dy) (by decide) rfl (r := 85) (wc53_40 dy) ?_
    refine v_iload_n 9 3 rfl rfl rfl ?_
    have c3 := h.1
    have h := h.2
    refine v_ia (N := 60) 10 rfl (al 85 rfl hn) (wk85 dy) (wn85 dy) (by decide) c3 (y := g 85 x3.toNat) rfl ?_
    refine v_rng fun w4 => ?_
    have r5 : i3 (g 85 x3.toNat) := rI w4 (q := x3.toNat) (al 85 rfl hn) (wk85 dy) rfl rfl
    refine v_dup2 11 rfl (by intro h; cases h) (by intro h; cases h) ?_
    have c6 := h.1
    have h := h.2
    refine v_ia (N := 60) 12 rfl (al 62 rfl hn) (wk62 dy) (wn62 dy) (by decide) c6 (y := g 62 ((g 85 x3.toNat).toNat)) rfl ?_
    refine v_rng fun w7 => ?_
    have r8 : i3 (g 62 ((g 85 x3.toNat).toNat)) := rI w7 (q := ((g 85 x3.toNat).toNat)) (al 62 rfl hn) (wk62 dy) rfl rfl
    refine v_aload_n 13 0 rfl rfl rfl ?_
    refine v_gK 14 rfl fl12_103_11.r (al 53 rfl hn) (wk53 dy) (by decide) rfl (r := 84) (wc53_39 dy) ?_
    refine v_aload_n 15 0 rfl rfl rfl ?_
    refine v_gK 16 rfl fl12_106_11.r (al 53 rfl hn) (wk53 dy) (by decide) rfl (r := 85) (wc53_40 dy) ?_
    refine v_iload_n 17 3 rfl rfl rfl ?_
    refine v_ia (N := 60) 18 rfl (al 85 rfl hn) (wk85 dy) (wn85 dy) (by decide) c3 (y := g 85 x3.toNat) rfl ?_
    refine v_rng fun w9 => ?_
    have r10 : i3 (g 85 x3.toNat) := rI w9 (q := x3.toNat) (al 85 rfl hn) (wk85 dy) rfl rfl
    refine v_ia (N := 60) 19 rfl (al 84 rfl hn) (wk84 dy) (wn84 dy) (by decide) c6 (y := g 84 ((g 85 x3.toNat).toNat)) rfl ?_
    refine v_rng fun w11 => ?_
    have r12 : i3 (g 84 ((g 85 x3.toNat).toNat)) := rI w11 (q := ((g 85 x3.toNat).toNat)) (al 84 rfl hn) (wk84 dy) rfl rfl
    refine v_iadd 20 rfl ?_
    have c13 := h.1
    have h := h.2
    refine v_iast (N := 60) 21 rfl (al 62 rfl hn) (wk62 dy) (wn62 dy) (by decide) c6 c13 ?_
    refine v_iinc 22 3 [1, 2, 3, 0] rfl rfl (by decide) rfl ?_
    refine v_goto 23 rfl (tgt := 2) rfl ?_
    exact h
set_option maxHeartbeats 8000000 in
set_option maxRecDepth 4000 in
theorem bX12_nextChoice_0 {d n : Nat} {dy : Nat → Shp} {g : Hp} {P : Pst} {x1 : Int} (hn : 100 ≤ n) (h : (i3 x1) ∧ ((x1 ≤ 0) → V miX12_nextChoice d 21 [(0, .ref 53), (1, I_ x1)] [I_ 0] n (W0 dy) g 0 0 P) ∧ ((0 < x1) → (0 ≤ x1 - 1 ∧ x1 - 1 < 60) ∧ (0 ≤ g 85 ((x1 - 1).toNat) ∧ g 85 ((x1 - 1).toNat) < 60) ∧ V miX12_nextChoice d 21 [(0, .ref 53), (1, I_ x1)] [I_ (g 84 ((g 85 ((x1 - 1).toNat)).toNat))] n (W0 dy) g 0 0 P)) : V miX12_nextChoice d 0 [(0, .ref 53), (1, I_ x1)] [] n (W0 dy) g 0 0 P := by
  refine v_iload_n 0 1 rfl rfl rfl ?_
  have c1 := h.1
  have h := h.2
  refine v_if_le 1 rfl (tgt := 20) rfl c1 (fun q8 => ?_) (fun q8 => ?_)
  · have h := h.1 q8
    refine v_iconst 12 rfl ?_
    exact h
  · have h := h.2 q8
    refine v_aload_n 2 0 rfl rfl rfl ?_
    refine v_gK 3 rfl fl12_103_11.r (al 53 rfl hn) (wk53 dy) (by decide) rfl (r := 84) (wc53_39 dy) ?_
    refine v_aload_n 4 0 rfl rfl rfl ?_
    refine v_gK 5 rfl fl12_106_11.r (al 53 rfl hn) (wk53 dy) (by decide) rfl (r := 85) (wc53_40 dy) ?_
    refine v_iload_n 6 1 rfl rfl rfl ?_
    refine v_iconst 7 rfl ?_
    refine v_isub 8 rfl ?_
    have c2 := h.1
    have h := h.2
    refine v_ia (N := 60) 9 rfl (al 85 rfl hn) (wk85 dy) (wn85 dy) (by decide) c2 (y := g 85 ((x1 - 1).toNat)) rfl ?_
    refine v_rng fun w3 => ?_
    have r4 : i3 (g 85 ((x1 - 1).toNat)) := rI w3 (q := ((x1 - 1).toNat)) (al 85 rfl hn) (wk85 dy) rfl rfl
    have c5 := h.1
    have h := h.2
    refine v_ia (N := 60) 10 rfl (al 84 rfl hn) (wk84 dy) (wn84 dy) (by decide) c5 (y := g 84 ((g 85 ((x1 - 1).toNat)).toNat)) rfl ?_
    refine v_rng fun w6 => ?_
    have r7 : i3 (g 84 ((g 85 ((x1 - 1).toNat)).toNat)) := rI w6 (q := ((g 85 ((x1 - 1).toNat)).toNat)) (al 84 rfl hn) (wk84 dy) rfl rfl
    refine v_goto 11 rfl (tgt := 21) rfl ?_
    exact h
set_option maxHeartbeats 8000000 in
set_option maxRecDepth 4000 in
theorem bX12_nextChoice_21 {d n : Nat} {dy : Nat → Shp} {g : Hp} {P : Pst} {x1 : Int} {xs0 : Int} (hn : 100 ≤ n) (h : V miX12_nextChoice d 26 [(0, .ref 53), (1, I_ x1), (2, I_ xs0), (3, I_ (x1 - 2))] [] n (W0 dy) g 0 0 P) : V miX12_nextChoice d 21 [(0, .ref 53), (1, I_ x1)] [I_ xs0] n (W0 dy) g 0 0 P := by
  refine v_istore_n 13 [1, 2, 0] rfl rfl (by decide) rfl ?_
  refine v_iload_n 14 1 rfl rfl rfl ?_
  refine v_iconst 15 rfl ?_
  refine v_isub 16 rfl ?_
  refine v_istore_n 17 [1, 2, 3, 0] rfl rfl (by decide) rfl ?_
  exact h
set_option maxHeartbeats 8000000 in
set_option maxRecDepth 4000 in
theorem bX12_nextChoice_26 {d n : Nat} {dy : Nat → Shp} {g : Hp} {P : Pst} {x1 : Int} {x2 : Int} {x3 : Int} (hn : 100 ≤ n) (h : (i3 x3) ∧ ((x3 < 0) → V miX12_nextChoice d 50 [(0, .ref 53), (1, I_ x1), (2, I_ x2), (3, I_ x3)] [] n (W0 dy) g 0 0 P) ∧ ((0 ≤ x3) → (0 ≤ x3 ∧ x3 < 60) ∧ (0 ≤ g 85 x3.toNat ∧ g 85 x3.toNat < 60) ∧ (((g 84 ((g 85 x3.toNat).toNat)) ≠ 0) → V miX12_nextChoice d 50 [(0, .ref 53), (1, I_ x1), (2, I_ x2), (3, I_ x3)] [] n (W0 dy) g 0 0 P) ∧ (((g 84 ((g 85 x3.toNat).toNat)) = 0) → V miX12_nextChoice d 26 [(0, .ref 53), (1, I_ x1), (2, I_ x2), (3, I_ (x3 + (-1)))] [] n (W0 dy) g 0 0 P))) : V miX12_nextChoice d 26 [(0, .ref 53), (1, I_ x1), (2, I_ x2), (3, I_ x3)] [] n (W0 dy) g 0 0 P := by
  refine v_iload_n 18 3 rfl rfl rfl ?_
  have c1 := h.1
  have h := h.2
  refine v_if_lt 19 rfl (tgt := 50) rfl c1 (fun q9 => ?_) (fun q9 => ?_)
  · have h := h.1 q9
    exact h
  · have h := h.2 q9
    refine v_aload_n 20 0 rfl rfl rfl ?_
    refine v_gK 21 rfl fl12_103_11.r (al 53 rfl hn) (wk53 dy) (by decide) rfl (r := 84) (wc53_39 dy) ?_
    refine v_aload_n 22 0 rfl rfl rfl ?_
    refine v_gK 23 rfl fl12_106_11.r (al 53 rfl hn) (wk53 dy) (by decide) rfl (r := 85) (wc53_40 dy) ?_
    refine v_iload_n 24 3 rfl rfl rfl ?_
    have c2 := h.1
    have h := h.2
    refine v_ia (N := 60) 25 rfl (al 85 rfl hn) (wk85 dy) (wn85 dy) (by decide) c2 (y := g 85 x3.toNat) rfl ?_
    refine v_rng fun w3 => ?_
    have r4 : i3 (g 85 x3.toNat) := rI w3 (q := x3.toNat) (al 85 rfl hn) (wk85 dy) rfl rfl
    have c5 := h.1
    have h := h.2
    refine v_ia (N := 60) 26 rfl (al 84 rfl hn) (wk84 dy) (wn84 dy) (by decide) c5 (y := g 84 ((g 85 x3.toNat).toNat)) rfl ?_
    refine v_rng fun w6 => ?_
    have r7 : i3 (g 84 ((g 85 x3.toNat).toNat)) := rI w6 (q := ((g 85 x3.toNat).toNat)) (al 84 rfl hn) (wk84 dy) rfl rfl
    refine v_if_ne 27 rfl (tgt := 50) rfl r7 (fun q8 => ?_) (fun q8 => ?_)
    · have h := h.1 q8
      exact h
    · have h := h.2 q8
      refine v_iinc 28 3 [1, 2, 3, 0] rfl rfl (by decide) rfl ?_
      refine v_goto 29 rfl (tgt := 26) rfl ?_
      exact h
set_option maxHeartbeats 8000000 in
set_option maxRecDepth 4000 in
theorem bX12_nextChoice_50 {d n : Nat} {dy : Nat → Shp} {g : Hp} {P : Pst} {x1 : Int} {x2 : Int} {x3 : Int} (hn : 100 ≤ n) (h : (i3 x3) ∧ ((0 ≤ x3) → (0 ≤ x1 - 1 ∧ x1 - 1 < 60) ∧ (0 ≤ g 85 ((x1 - 1).toNat) ∧ g 85 ((x1 - 1).toNat) < 60) ∧ (0 ≤ x3 ∧ x3 < 60) ∧ (0 ≤ g 85 x3.toNat ∧ g 85 x3.toNat < 60) ∧ (i3 (((up2 g 84 ((g 85 ((x1 - 1).toNat)).toNat) 0) 84 ((g 85 x3.toNat).toNat)) - 1)) ∧ (0 ≤ x3 + 1 ∧ x3 + 1 < 60) ∧ (0 ≤ g 85 ((x3 + 1).toNat) ∧ g 85 ((x3 + 1).toNat) < 60) ∧ (i3 (x2 + 1)) ∧ P (some (I_ 1)) n (W0 dy) (up2 (up2 (up2 g 84 ((g 85 ((x1 - 1).toNat)).toNat) 0) 84 ((g 85 x3.toNat).toNat) (((up2 g 84 ((g 85 ((x1 - 1).toNat)).toNat) 0) 84 ((g 85 x3.toNat).toNat)) - 1)) 84 ((g 85 ((x3 + 1).toNat)).toNat) (x2 + 1))) ∧ ((x3 < 0) → P (some (I_ 0)) n (W0 dy) g)) : V miX12_nextChoice d 50 [(0, .ref 53), (1, I_ x1), (2, I_ x2), (3, I_ x3)] [] n (W0 dy) g 0 0 P := by
  refine v_iload_n 30 3 rfl rfl rfl ?_
  have c1 := h.1
  have h := h.2
  refine v_if_ge 31 rfl (tgt := 56) rfl c1 (fun q18 => ?_) (fun q18 => ?_)
  · have h := h.1 q18
    refine v_aload_n 34 0 rfl rfl rfl ?_
    refine v_gK 35 rfl fl12_103_11.r (al 53 rfl hn) (wk53 dy) (by decide) rfl (r := 84) (wc53_39 dy) ?_
    refine v_aload_n 36 0 rfl rfl rfl ?_
    refine v_gK 37 rfl fl12_106_11.r (al 53 rfl hn) (wk53 dy) (by decide) rfl (r := 85) (wc53_40 dy) ?_
    refine v_iload_n 38 1 rfl rfl rfl ?_
    refine v_iconst 39 rfl ?_
    refine v_isub 40 rfl ?_
    have c2 := h.1
    have h := h.2
    refine v_ia (N := 60) 41 rfl (al 85 rfl hn) (wk85 dy) (wn85 dy) (by decide) c2 (y := g 85 ((x1 - 1).toNat)) rfl ?_
    refine v_rng fun w3 => ?_
    have r4 : i3 (g 85 ((x1 - 1).toNat)) := rI w3 (q := ((x1 - 1).toNat)) (al 85 rfl hn) (wk85 dy) rfl rfl
    refine v_iconst 42 rfl ?_
    have c5 := h.1
    have h := h.2
    refine v_iast (N := 60) 43 rfl (al 84 rfl hn) (wk84 dy) (wn84 dy) (by decide) c5 (by decide) ?_
    refine v_aload_n 44 0 rfl rfl rfl ?_
    refine v_gK 45 rfl fl12_103_11.r (al 53 rfl hn) (wk53 dy) (by decide) rfl (r := 84) (wc53_39 dy) ?_
    refine v_aload_n 46 0 rfl rfl rfl ?_
    refine v_gK 47 rfl fl12_106_11.r (al 53 rfl hn) (wk53 dy) (by decide) rfl (r := 85) (wc53_40 dy) ?_
    refine v_iload_n 48 3 rfl rfl rfl ?_
    have c6 := h.1
    have h := h.2
    refine v_ia (N := 60) 49 rfl (al 85 rfl hn) (wk85 dy) (wn85 dy) (by decide) c6 (y := g 85 x3.toNat) rfl ?_
    refine v_rng fun w7 => ?_
    have r8 : i3 (g 85 x3.toNat) := rI w7 (q := x3.toNat) (al 85 rfl hn) (wk85 dy) rfl rfl
    refine v_dup2 50 rfl (by intro h; cases h) (by intro h; cases h) ?_
    have c9 := h.1
    have h := h.2
    refine v_ia (N := 60) 51 rfl (al 84 rfl hn) (wk84 dy) (wn84 dy) (by decide) c9 (y := (up2 g 84 ((g 85 ((x1 - 1).toNat)).toNat) 0) 84 ((g 85 x3.toNat).toNat)) rfl ?_
    refine v_rng fun w10 => ?_
    have r11 : i3 ((up2 g 84 ((g 85 ((x1 - 1).toNat)).toNat) 0) 84 ((g 85 x3.toNat).toNat)) := rI w10 (q := ((g 85 x3.toNat).toNat)) (al 84 rfl hn) (wk84 dy) rfl rfl
    refine v_iconst 52 rfl ?_
    refine v_isub 53 rfl ?_
    have c12 := h.1
    have h := h.2
    refine v_iast (N := 60) 54 rfl (al 84 rfl hn) (wk84 dy) (wn84 dy) (by decide) c9 c12 ?_
    refine v_aload_n 55 0 rfl rfl rfl ?_
    refine v_gK 56 rfl fl12_103_11.r (al 53 rfl hn) (wk53 dy) (by decide) rfl (r := 84) (wc53_39 dy) ?_
    refine v_aload_n 57 0 rfl rfl rfl ?_
    refine v_gK 58 rfl fl12_106_11.r (al 53 rfl hn) (wk53 dy) (by decide) rfl (r := 85) (wc53_40 dy) ?_
    refine v_iload_n 59 3 rfl rfl rfl ?_
    refine v_iconst 60 rfl ?_
    refine v_iadd 61 rfl ?_
    have c13 := h.1
    have h := h.2
    refine v_ia (N := 60) 62 rfl (al 85 rfl hn) (wk85 dy) (wn85 dy) (by decide) c13 (y := g 85 ((x3 + 1).toNat)) rfl ?_
    refine v_rng fun w14 => ?_
    have r15 : i3 (g 85 ((x3 + 1).toNat)) := rI w14 (q := ((x3 + 1).toNat)) (al 85 rfl hn) (wk85 dy) rfl rfl
    refine v_iload_n 63 2 rfl rfl rfl ?_
    refine v_iconst 64 rfl ?_
    refine v_iadd 65 rfl ?_
    have c16 := h.1
    have h := h.2
    have c17 := h.1
    have h := h.2
    refine v_iast (N := 60) 66 rfl (al 84 rfl hn) (wk84 dy) (wn84 dy) (by decide) c16 c17 ?_
    refine v_iconst 67 rfl ?_
    exact v_ret (v := some (I_ 1)) 68 rfl (Nat.zero_le _) (Nat.zero_le _) (Or.inr rfl) rfl h
  · have h := h.2 q18
    refine v_iconst 32 rfl ?_
    exact v_ret (v := some (I_ 0)) 33 rfl (Nat.zero_le _) (Nat.zero_le _) (Or.inl rfl) rfl h
theorem fl12_340_11 : FL RX12 340 11 41 false .int := ⟨RX12, TX12, 58, "MobileMakerModel", rfl, rfl, by decide, kf11, tbG_in (List.mem_append_right _ (List.mem_of_getElem? (i := 1168) (by decide +kernel))) rfl, Or.inl rfl, rfl, by decide +kernel, ⟨tyX12, tyX12_ok⟩, nmX12, fun h => by cases h⟩
theorem fl12_121_11 : FL RX12 121 11 47 true (.array .int) := ⟨RX12, TX12, 58, "MobileMakerModel", rfl, rfl, by decide, kf11, tbG_in (List.mem_append_right _ (List.mem_of_getElem? (i := 1174) (by decide +kernel))) rfl, Or.inl rfl, rfl, by decide +kernel, ⟨tyX12, tyX12_ok⟩, nmX12, fun _ => rfl⟩
theorem fl12_124_11 : FL RX12 124 11 48 true (.array .int) := ⟨RX12, TX12, 58, "MobileMakerModel", rfl, rfl, by decide, kf11, tbG_in (List.mem_append_right _ (List.mem_of_getElem? (i := 1175) (by decide +kernel))) rfl, Or.inl rfl, rfl, by decide +kernel, ⟨tyX12, tyX12_ok⟩, nmX12, fun _ => rfl⟩
theorem fl12_109_11 : FL RX12 109 11 43 true (.array .long) := ⟨RX12, TX12, 58, "MobileMakerModel", rfl, rfl, by decide, kf11, tbG_in (List.mem_append_right _ (List.mem_of_getElem? (i := 1170) (by decide +kernel))) rfl, Or.inl rfl, rfl, by decide +kernel, ⟨tyX12, tyX12_ok⟩, nmX12, fun _ => rfl⟩
theorem fl12_112_11 : FL RX12 112 11 44 true (.array .long) := ⟨RX12, TX12, 58, "MobileMakerModel", rfl, rfl, by decide, kf11, tbG_in (List.mem_append_right _ (List.mem_of_getElem? (i := 1171) (by decide +kernel))) rfl, Or.inl rfl, rfl, by decide +kernel, ⟨tyX12, tyX12_ok⟩, nmX12, fun _ => rfl⟩
theorem fl12_127_11 : FL RX12 127 11 49 true (.array .long) := ⟨RX12, TX12, 58, "MobileMakerModel", rfl, rfl, by decide, kf11, tbG_in (List.mem_append_right _ (List.mem_of_getElem? (i := 1176) (by decide +kernel))) rfl, Or.inl rfl, rfl, by decide +kernel, ⟨tyX12, tyX12_ok⟩, nmX12, fun _ => rfl⟩
theorem fl12_130_11 : FL RX12 130 11 50 true (.array .long) := ⟨RX12, TX12, 58, "MobileMakerModel", rfl, rfl, by decide, kf11, tbG_in (List.mem_append_right _ (List.mem_of_getElem? (i := 1177) (by decide +kernel))) rfl, Or.inl rfl, rfl, by decide +kernel, ⟨tyX12, tyX12_ok⟩, nmX12, fun _ => rfl⟩
theorem lv12_237_shapes_11 : LkV miX12_shapes miX12_isRod 237 1 11 := ⟨⟨⟨tbG_in (List.mem_append_right _ (List.mem_of_getElem? (i := 1428) (by decide +kernel))) rfl, tbG_in (List.mem_append_right _ (List.mem_of_getElem? (i := 9) (by decide +kernel))) rfl, tbG_in (List.mem_append_right _ (List.mem_of_getElem? (i := 1425) (by decide +kernel))) rfl⟩, ⟨by decide +kernel, by decide +kernel, by decide +kernel⟩, by decide⟩, tbG_in (List.mem_append_right _ (List.mem_of_getElem? (i := 1427) (by decide +kernel))) rfl, RX12, TX12, 58, rfl, tbG_in (List.mem_append_left _ (List.mem_of_getElem? (i := 60) (by decide +kernel))) rfl⟩
theorem lv12_300_shapes_11 : LkV miX12_shapes miX12_arm 300 2 11 := ⟨⟨⟨tbG_in (List.mem_append_right _ (List.mem_of_getElem? (i := 1537) (by decide +kernel))) rfl, tbG_in (List.mem_append_right _ (List.mem_of_getElem? (i := 9) (by decide +kernel))) rfl, tbG_in (List.mem_append_right _ (List.mem_of_getElem? (i := 1534) (by decide +kernel))) rfl⟩, ⟨by decide +kernel, by decide +kernel, by decide +kernel⟩, by decide⟩, tbG_in (List.mem_append_right _ (List.mem_of_getElem? (i := 1536) (by decide +kernel))) rfl, RX12, TX12, 58, rfl, tbG_in (List.mem_append_left _ (List.mem_of_getElem? (i := 76) (by decide +kernel))) rfl⟩
theorem ls12_227_shapes : LkS miX12_shapes miX12_common 227 2 := ⟨⟨⟨tbG_in (List.mem_append_right _ (List.mem_of_getElem? (i := 1404) (by decide +kernel))) rfl, tbG_in (List.mem_append_right _ (List.mem_of_getElem? (i := 9) (by decide +kernel))) rfl, tbG_in (List.mem_append_right _ (List.mem_of_getElem? (i := 1402) (by decide +kernel))) rfl⟩, ⟨by decide +kernel, by decide +kernel, by decide +kernel⟩, by decide⟩, tbG_in (List.mem_append_right _ (List.mem_of_getElem? (i := 1403) (by decide +kernel))) rfl⟩
theorem lv12_297_shapes_11 : LkV miX12_shapes miX12_isWhole 297 1 11 := ⟨⟨⟨tbG_in (List.mem_append_right _ (List.mem_of_getElem? (i := 1533) (by decide +kernel))) rfl, tbG_in (List.mem_append_right _ (List.mem_of_getElem? (i := 9) (by decide +kernel))) rfl, tbG_in (List.mem_append_right _ (List.mem_of_getElem? (i := 1530) (by decide +kernel))) rfl⟩, ⟨by decide +kernel, by decide +kernel, by decide +kernel⟩, by decide⟩, tbG_in (List.mem_append_right _ (List.mem_of_getElem? (i := 1532) (by decide +kernel))) rfl, RX12, TX12, 58, rfl, tbG_in (List.mem_append_left _ (List.mem_of_getElem? (i := 75) (by decide +kernel))) rfl⟩
theorem lv12_345_shapes_11 : LkV miX12_shapes miX12_shapesOn 345 1 11 := ⟨⟨⟨tbG_in (List.mem_append_right _ (List.mem_of_getElem? (i := 1610) (by decide +kernel))) rfl, tbG_in (List.mem_append_right _ (List.mem_of_getElem? (i := 9) (by decide +kernel))) rfl, tbG_in (List.mem_append_right _ (List.mem_of_getElem? (i := 1607) (by decide +kernel))) rfl⟩, ⟨by decide +kernel, by decide +kernel, by decide +kernel⟩, by decide⟩, tbG_in (List.mem_append_right _ (List.mem_of_getElem? (i := 1609) (by decide +kernel))) rfl, RX12, TX12, 58, rfl, tbG_in (List.mem_append_left _ (List.mem_of_getElem? (i := 89) (by decide +kernel))) rfl⟩
set_option maxHeartbeats 8000000 in
set_option maxRecDepth 4000 in
theorem bX12_shapes_0 {d n : Nat} {dy : Nat → Shp} {g : Hp} {P : Pst} {x1 : Int} (hn : 100 ≤ n) (h : (i3 x1) ∧ (0 ≤ x1 ∧ x1 < 60) ∧ V miX12_shapes (d + 1) 35 [(0, .ref 53), (1, I_ x1), (2, I_ 1)] [] n (W0 dy) (up2 (up2 (up2 (up2 (up2 g 53 41 0) 90 0 x1) 91 0 ((-1))) 86 x1.toNat 1) 87 x1.toNat 1) 0 0 P) : V miX12_shapes (d + 1) 0 [(0, .ref 53), (1, I_ x1)] [] n (W0 dy) g 0 0 P := by
  refine v_aload_n 0 0 rfl rfl rfl ?_
  refine v_iconst 1 rfl ?_
  refine v_putI 2 rfl fl12_340_11 (al 53 rfl hn) (wk53 dy) (by decide) rfl (wc53_41 dy) (by decide) ?_
  refine v_iconst 3 rfl ?_
  refine v_istore_n 4 [1, 2, 0] rfl rfl (by decide) rfl ?_
  refine v_aload_n 5 0 rfl rfl rfl ?_
  refine v_gK 6 rfl fl12_121_11.r (al 53 rfl hn) (wk53 dy) (by decide) rfl (r := 90) (wc53_47 dy) ?_
  refine v_iconst 7 rfl ?_
  refine v_iload_n 8 1 rfl rfl rfl ?_
  have c1 := h.1
  have h := h.2
  refine v_iast (N := 200) 9 rfl (al 90 rfl hn) (wk90 dy) (wn90 dy) (by decide) (by decide) c1 ?_
  refine v_aload_n 10 0 rfl rfl rfl ?_
  refine v_gK 11 rfl fl12_124_11.r (al 53 rfl hn) (wk53 dy) (by decide) rfl (r := 91) (wc53_48 dy) ?_
  refine v_iconst 12 rfl ?_
  refine v_iconst 13 rfl ?_
  refine v_iast (N := 200) 14 rfl (al 91 rfl hn) (wk91 dy) (wn91 dy) (by decide) (by decide) (by decide) ?_
  refine v_aload_n 15 0 rfl rfl rfl ?_
  refine v_gK 16 rfl fl12_109_11.r (al 53 rfl hn) (wk53 dy) (by decide) rfl (r := 86) (wc53_43 dy) ?_
  refine v_iload_n 17 1 rfl rfl rfl ?_
  refine v_lconst (v := 1) 18 rfl (by decide) ?_
  have c2 := h.1
  have h := h.2
  refine v_last (N := 60) 19 rfl (al 86 rfl hn) (wk86 dy) (wn86 dy) (by decide) c2 (by decide) ?_
  refine v_aload_n 20 0 rfl rfl rfl ?_
  refine v_gK 21 rfl fl12_112_11.r (al 53 rfl hn) (wk53 dy) (by decide) rfl (r := 87) (wc53_44 dy) ?_
  refine v_iload_n 22 1 rfl rfl rfl ?_
  refine v_lconst (v := 1) 23 rfl (by decide) ?_
  refine v_last (N := 60) 24 rfl (al 87 rfl hn) (wk87 dy) (wn87 dy) (by decide) c2 (by decide) ?_
  exact h
set_option maxHeartbeats 8000000 in
set_option maxRecDepth 4000 in
theorem bX12_shapes_35 {d n : Nat} {dy : Nat → Shp} {g : Hp} {P : Pst} {x1 : Int} {x2 : Int} (hn : 100 ≤ n) (h : (i3 x2) ∧ ((x2 ≤ 0) → ((2 ≤ (g 53 41)) → V miX12_shapes (d + 1) 429 [(0, .ref 53), (1, I_ x1), (2, I_ x2)] [I_ 0] n (W0 dy) g 0 0 P) ∧ (((g 53 41) < 2) → V miX12_shapes (d + 1) 429 [(0, .ref 53), (1, I_ x1), (2, I_ x2)] [I_ 9] n (W0 dy) g 0 0 P)) ∧ ((0 < x2) → (0 ≤ x2 + (-1) ∧ x2 + (-1) < 200) ∧ (((g 91 ((x2 + (-1)).toNat)) < 0) → Runs miX12_isRod d [.ref 53, I_ (g 90 ((x2 + (-1)).toNat))] n (W0 dy) g (fun v n' S' g' => V miX12_shapes (d + 1) 192 [(0, .ref 53), (1, I_ x1), (2, I_ (x2 + (-1))), (3, I_ (g 90 ((x2 + (-1)).toNat)))] (v.toList ++ []) n' S' g' 0 0 P)) ∧ ((0 ≤ (g 91 ((x2 + (-1)).toNat))) → (((g 53 41) ≠ 8) → (0 ≤ g 90 ((x2 + (-1)).toNat) ∧ g 90 ((x2 + (-1)).toNat) < 60) ∧ Runs miX12_arm d [.ref 53, I_ (g 90 ((x2 + (-1)).toNat)), I_ (1 - (g 91 ((x2 + (-1)).toNat)))] n (W0 dy) g (fun v n' S' g' => V miX12_shapes (d + 1) 97 [(0, .ref 53), (1, I_ x1), (2, I_ (x2 + (-1))), (3, I_ (g 90 ((x2 + (-1)).toNat)))] (v.toList ++ [L_ (g 86 ((g 90 ((x2 + (-1)).toNat)).toNat)), I_ (g 53 41), .ref 92]) n' S' g' 0 0 P)) ∧ (((g 53 41) = 8) → P (some (I_ 9)) n (W0 dy) g)))) : V miX12_shapes (d + 1) 35 [(0, .ref 53), (1, I_ x1), (2, I_ x2)] [] n (W0 dy) g 0 0 P := by
  refine v_iload_n 25 2 rfl rfl rfl ?_
  have c1 := h.1
  have h := h.2
  refine v_if_le 26 rfl (tgt := 415) rfl c1 (fun q21 => ?_) (fun q21 => ?_)
  · have h := h.1 q21
    refine v_aload_n 244 0 rfl rfl rfl ?_
    refine v_gI 245 rfl fl12_340_11.r (al 53 rfl hn) (wk53 dy) (by decide) rfl (wc53_41 dy) (x := g 53 41) rfl ?_
    refine v_rng fun w2 => ?_
    have r3 : i3 (g 53 41) := rI w2 (q := 41) (al 53 rfl hn) (wk53 dy) rfl rfl
    refine v_iconst 246 rfl ?_
    refine v_icmp_ge 247 rfl (tgt := 428) rfl r3 (by decide) (fun q4 => ?_) (fun q4 => ?_)
    · have h := h.1 q4
      refine v_iconst 250 rfl ?_
      exact h
    · have h := h.2 q4
      refine v_bipush 248 rfl (by decide) ?_
      refine v_goto 249 rfl (tgt := 429) rfl ?_
      exact h
  · have h := h.2 q21
    refine v_iinc 27 2 [1, 2, 0] rfl rfl (by decide) rfl ?_
    refine v_aload_n 28 0 rfl rfl rfl ?_
    refine v_gK 29 rfl fl12_121_11.r (al 53 rfl hn) (wk53 dy) (by decide) rfl (r := 90) (wc53_47 dy) ?_
    refine v_iload_n 30 2 rfl rfl rfl ?_
    have c5 := h.1
    have h := h.2
    refine v_ia (N := 200) 31 rfl (al 90 rfl hn) (wk90 dy) (wn90 dy) (by decide) c5 (y := g 90 ((x2 + (-1)).toNat)) rfl ?_
    refine v_rng fun w6 => ?_
    have r7 : i3 (g 90 ((x2 + (-1)).toNat)) := rI w6 (q := ((x2 + (-1)).toNat)) (al 90 rfl hn) (wk90 dy) rfl rfl
    refine v_istore_n 32 [1, 2, 3, 0] rfl rfl (by decide) rfl ?_
    refine v_aload_n 33 0 rfl rfl rfl ?_
    refine v_gK 34 rfl fl12_124_11.r (al 53 rfl hn) (wk53 dy) (by decide) rfl (r := 91) (wc53_48 dy) ?_
    refine v_iload_n 35 2 rfl rfl rfl ?_
    refine v_ia (N := 200) 36 rfl (al 91 rfl hn) (wk91 dy) (wn91 dy) (by decide) c5 (y := g 91 ((x2 + (-1)).toNat)) rfl ?_
    refine v_rng fun w8 => ?_
    have r9 : i3 (g 91 ((x2 + (-1)).toNat)) := rI w8 (q := ((x2 + (-1)).toNat)) (al 91 rfl hn) (wk91 dy) rfl rfl
    refine v_if_lt 37 rfl (tgt := 187) rfl r9 (fun q20 => ?_) (fun q20 => ?_)
    · have h := h.1 q20
      refine v_aload_n 116 0 rfl rfl rfl ?_
      refine v_iload_n 117 3 rfl rfl rfl ?_
      refine v_callV (st := []) [I_ (g 90 ((x2 + (-1)).toNat))] 118 rfl lv12_237_shapes_11 (al 53 rfl hn) (wk53 dy) (by decide) rfl (Nat.le_refl _) (Nat.le_refl _) ?_
      exact h
    · have h := h.2 q20
      refine v_aload_n 38 0 rfl rfl rfl ?_
      refine v_gI 39 rfl fl12_340_11.r (al 53 rfl hn) (wk53 dy) (by decide) rfl (wc53_41 dy) (x := g 53 41) rfl ?_
      refine v_rng fun w10 => ?_
      have r11 : i3 (g 53 41) := rI w10 (q := 41) (al 53 rfl hn) (wk53 dy) rfl rfl
      refine v_bipush 40 rfl (by decide) ?_
      refine v_icmp_ne 41 rfl (tgt := 70) rfl r11 (by decide) (fun q19 => ?_) (fun q19 => ?_)
      · have h := h.1 q19
        refine v_aload_n 44 0 rfl rfl rfl ?_
        refine v_gK 45 rfl fl12_127_11.r (al 53 rfl hn) (wk53 dy) (by decide) rfl (r := 92) (wc53_49 dy) ?_
        refine v_aload_n 46 0 rfl rfl rfl ?_
        refine v_gI 47 rfl fl12_340_11.r (al 53 rfl hn) (wk53 dy) (by decide) rfl (wc53_41 dy) (x := g 53 41) rfl ?_
        refine v_rng fun w12 => ?_
        have r13 : i3 (g 53 41) := rI w12 (q := 41) (al 53 rfl hn) (wk53 dy) rfl rfl
        refine v_aload_n 48 0 rfl rfl rfl ?_
        refine v_gK 49 rfl fl12_109_11.r (al 53 rfl hn) (wk53 dy) (by decide) rfl (r := 86) (wc53_43 dy) ?_
        refine v_iload_n 50 3 rfl rfl rfl ?_
        have c14 := h.1
        have h := h.2
        refine v_la (N := 60) 51 rfl (al 86 rfl hn) (wk86 dy) (wn86 dy) (by decide) c14 (y := g 86 ((g 90 ((x2 + (-1)).toNat)).toNat)) rfl ?_
        refine v_rng fun w15 => ?_
        have r16 : i6 (g 86 ((g 90 ((x2 + (-1)).toNat)).toNat)) := rL w15 (q := ((g 90 ((x2 + (-1)).toNat)).toNat)) (al 86 rfl hn) (wk86 dy) rfl rfl
        refine v_aload_n 52 0 rfl rfl rfl ?_
        refine v_iload_n 53 3 rfl rfl rfl ?_
        refine v_iconst 54 rfl ?_
        refine v_aload_n 55 0 rfl rfl rfl ?_
        refine v_gK 56 rfl fl12_124_11.r (al 53 rfl hn) (wk53 dy) (by decide) rfl (r := 91) (wc53_48 dy) ?_
        refine v_iload_n 57 2 rfl rfl rfl ?_
        refine v_ia (N := 200) 58 rfl (al 91 rfl hn) (wk91 dy) (wn91 dy) (by decide) c5 (y := g 91 ((x2 + (-1)).toNat)) rfl ?_
        refine v_rng fun w17 => ?_
        have r18 : i3 (g 91 ((x2 + (-1)).toNat)) := rI w17 (q := ((x2 + (-1)).toNat)) (al 91 rfl hn) (wk91 dy) rfl rfl
        refine v_isub 59 rfl ?_
        refine v_callV (st := [L_ (g 86 ((g 90 ((x2 + (-1)).toNat)).toNat)), I_ (g 53 41), .ref 92]) [I_ (g 90 ((x2 + (-1)).toNat)), I_ (1 - (g 91 ((x2 + (-1)).toNat)))] 60 rfl lv12_300_shapes_11 (al 53 rfl hn) (wk53 dy) (by decide) rfl (Nat.le_refl _) (Nat.le_refl _) ?_
        exact h
      · have h := h.2 q19
        refine v_bipush 42 rfl (by decide) ?_
        exact v_ret (v := some (I_ 9)) 43 rfl (Nat.zero_le _) (Nat.zero_le _) trivial rfl h
set_option maxHeartbeats 8000000 in
set_option maxRecDepth 4000 in
theorem bX12_shapes_97 {d n : Nat} {dy : Nat → Shp} {g : Hp} {P : Pst} {x1 : Int} {x2 : Int} {x3 : Int} {xs1 : Int} {xs2 : Int} {xs3 : Int} (hn : 100 ≤ n) (h : (i3 xs3) ∧ (0 ≤ xs1 ∧ xs1 < 8) ∧ (i6 (xs2 * xs3)) ∧ (0 ≤ x3 ∧ x3 < 60) ∧ (0 ≤ g 53 41 ∧ g 53 41 < 8) ∧ (i6 ((g 87 x3.toNat) * (g 59 x3.toNat))) ∧ Runs miX12_common d [L_ ((up2 g 92 xs1.toNat (xs2 * xs3)) 92 ((g 53 41).toNat)), L_ ((up2 (up2 g 92 xs1.toNat (xs2 * xs3)) 93 ((g 53 41).toNat) ((g 87 x3.toNat) * (g 59 x3.toNat))) 93 ((g 53 41).toNat))] n (W0 dy) (up2 (up2 g 92 xs1.toNat (xs2 * xs3)) 93 ((g 53 41).toNat) ((g 87 x3.toNat) * (g 59 x3.toNat))) (fun v n' S' g' => V miX12_shapes (d + 1) 144 [(0, .ref 53), (1, I_ x1), (2, I_ x2), (3, I_ x3)] (v.toList ++ []) n' S' g' 0 0 P)) : V miX12_shapes (d + 1) 97 [(0, .ref 53), (1, I_ x1), (2, I_ x2), (3, I_ x3)] [I_ xs3, L_ xs2, I_ xs1, .ref 92] n (W0 dy) g 0 0 P := by
  have c1 := h.1
  have h := h.2
  refine v_i2l 61 rfl c1 ?_
  refine v_lmul 62 rfl ?_
  have c2 := h.1
  have h := h.2
  have c3 := h.1
  have h := h.2
  refine v_last (N := 8) 63 rfl (al 92 rfl hn) (wk92 dy) (wn92 dy) (by decide) c2 c3 ?_
  refine v_aload_n 64 0 rfl rfl rfl ?_
  refine v_gK 65 rfl fl12_130_11.r (al 53 rfl hn) (wk53 dy) (by decide) rfl (r := 93) (wc53_50 dy) ?_
  refine v_aload_n 66 0 rfl rfl rfl ?_
  refine v_gI 67 rfl fl12_340_11.r (al 53 rfl hn) (wk53 dy) (by decide) rfl (wc53_41 dy) (x := g 53 41) rfl ?_
  refine v_rng fun w4 => ?_
  have r5 : i3 (g 53 41) := rI w4 (q := 41) (al 53 rfl hn) (wk53 dy) rfl rfl
  refine v_aload_n 68 0 rfl rfl rfl ?_
  refine v_gK 69 rfl fl12_112_11.r (al 53 rfl hn) (wk53 dy) (by decide) rfl (r := 87) (wc53_44 dy) ?_
  refine v_iload_n 70 3 rfl rfl rfl ?_
  have c6 := h.1
  have h := h.2
  refine v_la (N := 60) 71 rfl (al 87 rfl hn) (wk87 dy) (wn87 dy) (by decide) c6 (y := g 87 x3.toNat) rfl ?_
  refine v_rng fun w7 => ?_
  have r8 : i6 (g 87 x3.toNat) := rL w7 (q := x3.toNat) (al 87 rfl hn) (wk87 dy) rfl rfl
  refine v_aload_n 72 0 rfl rfl rfl ?_
  refine v_gK 73 rfl fl12_26_11.r (al 53 rfl hn) (wk53 dy) (by decide) rfl (r := 59) (wc53_8 dy) ?_
  refine v_iload_n 74 3 rfl rfl rfl ?_
  refine v_ia (N := 60) 75 rfl (al 59 rfl hn) (wk59 dy) (wn59 dy) (by decide) c6 (y := g 59 x3.toNat) rfl ?_
  refine v_rng fun w9 => ?_
  have r10 : i3 (g 59 x3.toNat) := rI w9 (q := x3.toNat) (al 59 rfl hn) (wk59 dy) rfl rfl
  refine v_i2l 76 rfl r10 ?_
  refine v_lmul 77 rfl ?_
  have c11 := h.1
  have h := h.2
  have c12 := h.1
  have h := h.2
  refine v_last (N := 8) 78 rfl (al 93 rfl hn) (wk93 dy) (wn93 dy) (by decide) c11 c12 ?_
  refine v_aload_n 79 0 rfl rfl rfl ?_
  refine v_gK 80 rfl fl12_127_11.r (al 53 rfl hn) (wk53 dy) (by decide) rfl (r := 92) (wc53_49 dy) ?_
  refine v_aload_n 81 0 rfl rfl rfl ?_
  refine v_gI 82 rfl fl12_340_11.r (al 53 rfl hn) (wk53 dy) (by decide) rfl (wc53_41 dy) (x := g 53 41) rfl ?_
  refine v_rng fun w13 => ?_
  have r14 : i3 (g 53 41) := rI w13 (q := 41) (al 53 rfl hn) (wk53 dy) rfl rfl
  refine v_la (N := 8) 83 rfl (al 92 rfl hn) (wk92 dy) (wn92 dy) (by decide) c11 (y := (up2 g 92 xs1.toNat (xs2 * xs3)) 92 ((g 53 41).toNat)) rfl ?_
  refine v_rng fun w15 => ?_
  have r16 : i6 ((up2 g 92 xs1.toNat (xs2 * xs3)) 92 ((g 53 41).toNat)) := rL w15 (q := ((g 53 41).toNat)) (al 92 rfl hn) (wk92 dy) rfl rfl
  refine v_aload_n 84 0 rfl rfl rfl ?_
  refine v_gK 85 rfl fl12_130_11.r (al 53 rfl hn) (wk53 dy) (by decide) rfl (r := 93) (wc53_50 dy) ?_
  refine v_aload_n 86 0 rfl rfl rfl ?_
  refine v_gI 87 rfl fl12_340_11.r (al 53 rfl hn) (wk53 dy) (by decide) rfl (wc53_41 dy) (x := g 53 41) rfl ?_
  refine v_rng fun w17 => ?_
  have r18 : i3 (g 53 41) := rI w17 (q := 41) (al 53 rfl hn) (wk53 dy) rfl rfl
  refine v_la (N := 8) 88 rfl (al 93 rfl hn) (wk93 dy) (wn93 dy) (by decide) c11 (y := (up2 (up2 g 92 xs1.toNat (xs2 * xs3)) 93 ((g 53 41).toNat) ((g 87 x3.toNat) * (g 59 x3.toNat))) 93 ((g 53 41).toNat)) rfl ?_
  refine v_rng fun w19 => ?_
  have r20 : i6 ((up2 (up2 g 92 xs1.toNat (xs2 * xs3)) 93 ((g 53 41).toNat) ((g 87 x3.toNat) * (g 59 x3.toNat))) 93 ((g 53 41).toNat)) := rL w19 (q := ((g 53 41).toNat)) (al 93 rfl hn) (wk93 dy) rfl rfl
  refine v_callS (st := []) [L_ ((up2 g 92 xs1.toNat (xs2 * xs3)) 92 ((g 53 41).toNat)), L_ ((up2 (up2 g 92 xs1.toNat (xs2 * xs3)) 93 ((g 53 41).toNat) ((g 87 x3.toNat) * (g 59 x3.toNat))) 93 ((g 53 41).toNat))] 89 rfl ls12_227_shapes rfl (Nat.lt_of_lt_of_le (by decide) hn) (Nat.le_refl _) (Nat.le_refl _) ?_
  exact h
set_option maxHeartbeats 8000000 in
set_option maxRecDepth 4000 in
theorem bX12_shapes_144 {d n : Nat} {dy : Nat → Shp} {g : Hp} {P : Pst} {x1 : Int} {x2 : Int} {x3 : Int} {xs0 : Int} (hn : 100 ≤ n) (h : (0 ≤ g 53 41 ∧ g 53 41 < 8) ∧ (i6 xs0) ∧ (xs0 ≠ 0) ∧ (i6 ((g 92 ((g 53 41).toNat)).tdiv xs0)) ∧ (xs0 ≠ 0) ∧ (i6 ((g 93 ((g 53 41).toNat)).tdiv xs0)) ∧ (i3 ((g 53 41) + 1)) ∧ V miX12_shapes (d + 1) 35 [(0, .ref 53), (1, I_ x1), (2, I_ x2)] [] n (W0 dy) (up2 (up2 (up2 g 92 ((g 53 41).toNat) ((g 92 ((g 53 41).toNat)).tdiv xs0)) 93 ((g 53 41).toNat) ((g 93 ((g 53 41).toNat)).tdiv xs0)) 53 41 ((g 53 41) + 1)) 0 0 P) : V miX12_shapes (d + 1) 144 [(0, .ref 53), (1, I_ x1), (2, I_ x2), (3, I_ x3)] [L_ xs0] n (W0 dy) g 0 0 P := by
  refine v_lstore 90 [1, 2, 3, 4, 0] rfl (by decide) rfl ?_
  refine v_aload_n 91 0 rfl rfl rfl ?_
  refine v_gK 92 rfl fl12_127_11.r (al 53 rfl hn) (wk53 dy) (by decide) rfl (r := 92) (wc53_49 dy) ?_
  refine v_aload_n 93 0 rfl rfl rfl ?_
  refine v_gI 94 rfl fl12_340_11.r (al 53 rfl hn) (wk53 dy) (by decide) rfl (wc53_41 dy) (x := g 53 41) rfl ?_
  refine v_rng fun w1 => ?_
  have r2 : i3 (g 53 41) := rI w1 (q := 41) (al 53 rfl hn) (wk53 dy) rfl rfl
  refine v_dup2 95 rfl (by intro h; cases h) (by intro h; cases h) ?_
  have c3 := h.1
  have h := h.2
  refine v_la (N := 8) 96 rfl (al 92 rfl hn) (wk92 dy) (wn92 dy) (by decide) c3 (y := g 92 ((g 53 41).toNat)) rfl ?_
  refine v_rng fun w4 => ?_
  have r5 : i6 (g 92 ((g 53 41).toNat)) := rL w4 (q := ((g 53 41).toNat)) (al 92 rfl hn) (wk92 dy) rfl rfl
  refine v_lload 97 4 rfl rfl ?_
  have c6 := h.1
  have h := h.2
  have c7 := h.1
  have h := h.2
  refine v_ldiv 98 rfl r5 c6 c7 ?_
  have c8 := h.1
  have h := h.2
  refine v_last (N := 8) 99 rfl (al 92 rfl hn) (wk92 dy) (wn92 dy) (by decide) c3 c8 ?_
  refine v_aload_n 100 0 rfl rfl rfl ?_
  refine v_gK 101 rfl fl12_130_11.r (al 53 rfl hn) (wk53 dy) (by decide) rfl (r := 93) (wc53_50 dy) ?_
  refine v_aload_n 102 0 rfl rfl rfl ?_
  refine v_gI 103 rfl fl12_340_11.r (al 53 rfl hn) (wk53 dy) (by decide) rfl (wc53_41 dy) (x := g 53 41) rfl ?_
  refine v_rng fun w9 => ?_
  have r10 : i3 (g 53 41) := rI w9 (q := 41) (al 53 rfl hn) (wk53 dy) rfl rfl
  refine v_dup2 104 rfl (by intro h; cases h) (by intro h; cases h) ?_
  refine v_la (N := 8) 105 rfl (al 93 rfl hn) (wk93 dy) (wn93 dy) (by decide) c3 (y := g 93 ((g 53 41).toNat)) rfl ?_
  refine v_rng fun w11 => ?_
  have r12 : i6 (g 93 ((g 53 41).toNat)) := rL w11 (q := ((g 53 41).toNat)) (al 93 rfl hn) (wk93 dy) rfl rfl
  refine v_lload 106 4 rfl rfl ?_
  have c13 := h.1
  have h := h.2
  refine v_ldiv 107 rfl r12 c6 c13 ?_
  have c14 := h.1
  have h := h.2
  refine v_last (N := 8) 108 rfl (al 93 rfl hn) (wk93 dy) (wn93 dy) (by decide) c3 c14 ?_
  refine v_aload_n 109 0 rfl rfl rfl ?_
  refine v_dup 110 rfl (by intro h; cases h) ?_
  refine v_gI 111 rfl fl12_340_11.r (al 53 rfl hn) (wk53 dy) (by decide) rfl (wc53_41 dy) (x := g 53 41) rfl ?_
  refine v_rng fun w15 => ?_
  have r16 : i3 (g 53 41) := rI w15 (q := 41) (al 53 rfl hn) (wk53 dy) rfl rfl
  refine v_iconst 112 rfl ?_
  refine v_iadd 113 rfl ?_
  have c17 := h.1
  have h := h.2
  refine v_putI 114 rfl fl12_340_11 (al 53 rfl hn) (wk53 dy) (by decide) rfl (wc53_41 dy) c17 ?_
  refine v_goto 115 rfl (tgt := 35) rfl ?_
  refine v_loc [0, 1, 2] rfl ?_
  exact h
set_option maxHeartbeats 8000000 in
set_option maxRecDepth 4000 in
theorem bX12_shapes_192 {d n : Nat} {dy : Nat → Shp} {g : Hp} {P : Pst} {x1 : Int} {x2 : Int} {x3 : Int} {xs0 : Int} (hn : 100 ≤ n) (h : (i3 xs0) ∧ ((xs0 = 0) → V miX12_shapes (d + 1) 212 [(0, .ref 53), (1, I_ x1), (2, I_ x2), (3, I_ x3)] [] n (W0 dy) g 0 0 P) ∧ ((xs0 ≠ 0) → (0 ≤ x3 ∧ x3 < 60) ∧ (((g 58 x3.toNat) ≠ 0) → V miX12_shapes (d + 1) 212 [(0, .ref 53), (1, I_ x1), (2, I_ x2), (3, I_ x3)] [] n (W0 dy) g 0 0 P) ∧ (((g 58 x3.toNat) = 0) → Runs miX12_isWhole d [.ref 53, I_ x3] n (W0 dy) g (fun v n' S' g' => V miX12_shapes (d + 1) 209 [(0, .ref 53), (1, I_ x1), (2, I_ x2), (3, I_ x3)] (v.toList ++ []) n' S' g' 0 0 P)))) : V miX12_shapes (d + 1) 192 [(0, .ref 53), (1, I_ x1), (2, I_ x2), (3, I_ x3)] [I_ xs0] n (W0 dy) g 0 0 P := by
  have c1 := h.1
  have h := h.2
  refine v_if_eq 119 rfl (tgt := 212) rfl c1 (fun q6 => ?_) (fun q6 => ?_)
  · have h := h.1 q6
    exact h
  · have h := h.2 q6
    refine v_aload_n 120 0 rfl rfl rfl ?_
    refine v_gK 121 rfl fl12_23_11.r (al 53 rfl hn) (wk53 dy) (by decide) rfl (r := 58) (wc53_7 dy) ?_
    refine v_iload_n 122 3 rfl rfl rfl ?_
    have c2 := h.1
    have h := h.2
    refine v_ia (N := 60) 123 rfl (al 58 rfl hn) (wk58 dy) (wn58 dy) (by decide) c2 (y := g 58 x3.toNat) rfl ?_
    refine v_rng fun w3 => ?_
    have r4 : i3 (g 58 x3.toNat) := rI w3 (q := x3.toNat) (al 58 rfl hn) (wk58 dy) rfl rfl
    refine v_if_ne 124 rfl (tgt := 212) rfl r4 (fun q5 => ?_) (fun q5 => ?_)
    · have h := h.1 q5
      exact h
    · have h := h.2 q5
      refine v_aload_n 125 0 rfl rfl rfl ?_
      refine v_iload_n 126 3 rfl rfl rfl ?_
      refine v_callV (st := []) [I_ x3] 127 rfl lv12_297_shapes_11 (al 53 rfl hn) (wk53 dy) (by decide) rfl (Nat.le_refl _) (Nat.le_refl _) ?_
      exact h
set_option maxHeartbeats 8000000 in
set_option maxRecDepth 4000 in
theorem bX12_shapes_209 {d n : Nat} {dy : Nat → Shp} {g : Hp} {P : Pst} {x1 : Int} {x2 : Int} {x3 : Int} {xs0 : Int} (hn : 100 ≤ n) (h : (i3 xs0) ∧ ((xs0 ≠ 0) → V miX12_shapes (d + 1) 218 [(0, .ref 53), (1, I_ x1), (2, I_ x2), (3, I_ x3), (4, I_ 1)] [] n (W0 dy) g 0 0 P) ∧ ((xs0 = 0) → V miX12_shapes (d + 1) 212 [(0, .ref 53), (1, I_ x1), (2, I_ x2), (3, I_ x3)] [] n (W0 dy) g 0 0 P)) : V miX12_shapes (d + 1) 209 [(0, .ref 53), (1, I_ x1), (2, I_ x2), (3, I_ x3)] [I_ xs0] n (W0 dy) g 0 0 P := by
  have c1 := h.1
  have h := h.2
  refine v_if_ne 128 rfl (tgt := 215) rfl c1 (fun q2 => ?_) (fun q2 => ?_)
  · have h := h.1 q2
    refine v_iconst 131 rfl ?_
    refine v_istore 132 [1, 2, 3, 4, 0] rfl (by decide) rfl ?_
    exact h
  · have h := h.2 q2
    exact h
set_option maxHeartbeats 8000000 in
set_option maxRecDepth 4000 in
theorem bX12_shapes_212 {d n : Nat} {dy : Nat → Shp} {g : Hp} {P : Pst} {x1 : Int} {x2 : Int} {x3 : Int} (hn : 100 ≤ n) (h : P (some (I_ 9)) n (W0 dy) g) : V miX12_shapes (d + 1) 212 [(0, .ref 53), (1, I_ x1), (2, I_ x2), (3, I_ x3)] [] n (W0 dy) g 0 0 P := by
  refine v_bipush 129 rfl (by decide) ?_
  exact v_ret (v := some (I_ 9)) 130 rfl (Nat.zero_le _) (Nat.zero_le _) trivial rfl h
set_option maxHeartbeats 8000000 in
set_option maxRecDepth 4000 in
theorem bX12_shapes_218 {d n : Nat} {dy : Nat → Shp} {g : Hp} {P : Pst} {x1 : Int} {x2 : Int} {x3 : Int} {x4 : Int} (hn : 100 ≤ n) (h : (i3 x4) ∧ ((x4 < 0) → V miX12_shapes (d + 1) 35 [(0, .ref 53), (1, I_ x1), (2, I_ x2)] [] n (W0 dy) g 0 0 P) ∧ ((0 ≤ x4) → ((x4 ≠ 0) → (0 ≤ x3 ∧ x3 < 60) ∧ V miX12_shapes (d + 1) 243 [(0, .ref 53), (1, I_ x1), (2, I_ x2), (3, I_ x3), (4, I_ x4)] [I_ (g 67 x3.toNat)] n (W0 dy) g 0 0 P) ∧ ((x4 = 0) → (0 ≤ x3 ∧ x3 < 60) ∧ V miX12_shapes (d + 1) 243 [(0, .ref 53), (1, I_ x1), (2, I_ x2), (3, I_ x3), (4, I_ x4)] [I_ (g 66 x3.toNat)] n (W0 dy) g 0 0 P))) : V miX12_shapes (d + 1) 218 [(0, .ref 53), (1, I_ x1), (2, I_ x2), (3, I_ x3), (4, I_ x4)] [] n (W0 dy) g 0 0 P := by
  refine v_iload 133 4 rfl rfl ?_
  have c1 := h.1
  have h := h.2
  refine v_if_lt 134 rfl (tgt := 412) rfl c1 (fun q9 => ?_) (fun q9 => ?_)
  · have h := h.1 q9
    refine v_goto 243 rfl (tgt := 35) rfl ?_
    refine v_loc [0, 1, 2] rfl ?_
    exact h
  · have h := h.2 q9
    refine v_iload 135 4 rfl rfl ?_
    refine v_if_ne 136 rfl (tgt := 237) rfl c1 (fun q8 => ?_) (fun q8 => ?_)
    · have h := h.1 q8
      refine v_aload_n 142 0 rfl rfl rfl ?_
      refine v_gK 143 rfl fl12_50_11.r (al 53 rfl hn) (wk53 dy) (by decide) rfl (r := 67) (wc53_16 dy) ?_
      refine v_iload_n 144 3 rfl rfl rfl ?_
      have c2 := h.1
      have h := h.2
      refine v_ia (N := 60) 145 rfl (al 67 rfl hn) (wk67 dy) (wn67 dy) (by decide) c2 (y := g 67 x3.toNat) rfl ?_
      refine v_rng fun w3 => ?_
      have r4 : i3 (g 67 x3.toNat) := rI w3 (q := x3.toNat) (al 67 rfl hn) (wk67 dy) rfl rfl
      exact h
    · have h := h.2 q8
      refine v_aload_n 137 0 rfl rfl rfl ?_
      refine v_gK 138 rfl fl12_47_11.r (al 53 rfl hn) (wk53 dy) (by decide) rfl (r := 66) (wc53_15 dy) ?_
      refine v_iload_n 139 3 rfl rfl rfl ?_
      have c5 := h.1
      have h := h.2
      refine v_ia (N := 60) 140 rfl (al 66 rfl hn) (wk66 dy) (wn66 dy) (by decide) c5 (y := g 66 x3.toNat) rfl ?_
      refine v_rng fun w6 => ?_
      have r7 : i3 (g 66 x3.toNat) := rI w6 (q := x3.toNat) (al 66 rfl hn) (wk66 dy) rfl rfl
      refine v_goto 141 rfl (tgt := 243) rfl ?_
      exact h
set_option maxHeartbeats 8000000 in
set_option maxRecDepth 4000 in
theorem bX12_shapes_243 {d n : Nat} {dy : Nat → Shp} {g : Hp} {P : Pst} {x1 : Int} {x2 : Int} {x3 : Int} {x4 : Int} {xs0 : Int} (hn : 100 ≤ n) (h : (i3 xs0) ∧ ((0 ≤ xs0) → V miX12_shapes (d + 1) 261 [(0, .ref 53), (1, I_ x1), (2, I_ x2), (3, I_ x3), (4, I_ x4), (5, I_ xs0)] [I_ xs0, I_ x2, .ref 90] n (W0 dy) g 0 0 P) ∧ ((xs0 < 0) → V miX12_shapes (d + 1) 261 [(0, .ref 53), (1, I_ x1), (2, I_ x2), (3, I_ x3), (4, I_ x4), (5, I_ xs0)] [I_ x3, I_ x2, .ref 90] n (W0 dy) g 0 0 P)) : V miX12_shapes (d + 1) 243 [(0, .ref 53), (1, I_ x1), (2, I_ x2), (3, I_ x3), (4, I_ x4)] [I_ xs0] n (W0 dy) g 0 0 P := by
  refine v_istore 146 [1, 2, 3, 4, 5, 0] rfl (by decide) rfl ?_
  refine v_aload_n 147 0 rfl rfl rfl ?_
  refine v_gK 148 rfl fl12_121_11.r (al 53 rfl hn) (wk53 dy) (by decide) rfl (r := 90) (wc53_47 dy) ?_
  refine v_iload_n 149 2 rfl rfl rfl ?_
  refine v_iload 150 5 rfl rfl ?_
  have c1 := h.1
  have h := h.2
  refine v_if_ge 151 rfl (tgt := 259) rfl c1 (fun q2 => ?_) (fun q2 => ?_)
  · have h := h.1 q2
    refine v_iload 154 5 rfl rfl ?_
    exact h
  · have h := h.2 q2
    refine v_iload_n 152 3 rfl rfl rfl ?_
    refine v_goto 153 rfl (tgt := 261) rfl ?_
    exact h
set_option maxHeartbeats 8000000 in
set_option maxRecDepth 4000 in
theorem bX12_shapes_261 {d n : Nat} {dy : Nat → Shp} {g : Hp} {P : Pst} {x1 : Int} {x2 : Int} {x3 : Int} {x4 : Int} {x5 : Int} {xs1 : Int} {xs2 : Int} (hn : 100 ≤ n) (h : (0 ≤ xs1 ∧ xs1 < 200) ∧ (i3 xs2) ∧ (i3 x5) ∧ ((0 ≤ x5) → V miX12_shapes (d + 1) 278 [(0, .ref 53), (1, I_ x1), (2, I_ x2), (3, I_ x3), (4, I_ x4), (5, I_ x5)] [I_ ((-1)), I_ x2, .ref 91] n (W0 dy) (up2 g 90 xs1.toNat xs2) 0 0 P) ∧ ((x5 < 0) → V miX12_shapes (d + 1) 278 [(0, .ref 53), (1, I_ x1), (2, I_ x2), (3, I_ x3), (4, I_ x4), (5, I_ x5)] [I_ x4, I_ x2, .ref 91] n (W0 dy) (up2 g 90 xs1.toNat xs2) 0 0 P)) : V miX12_shapes (d + 1) 261 [(0, .ref 53), (1, I_ x1), (2, I_ x2), (3, I_ x3), (4, I_ x4), (5, I_ x5)] [I_ xs2, I_ xs1, .ref 90] n (W0 dy) g 0 0 P := by
  have c1 := h.1
  have h := h.2
  have c2 := h.1
  have h := h.2
  refine v_iast (N := 200) 155 rfl (al 90 rfl hn) (wk90 dy) (wn90 dy) (by decide) c1 c2 ?_
  refine v_aload_n 156 0 rfl rfl rfl ?_
  refine v_gK 157 rfl fl12_124_11.r (al 53 rfl hn) (wk53 dy) (by decide) rfl (r := 91) (wc53_48 dy) ?_
  refine v_iload_n 158 2 rfl rfl rfl ?_
  refine v_iload 159 5 rfl rfl ?_
  have c3 := h.1
  have h := h.2
  refine v_if_ge 160 rfl (tgt := 277) rfl c3 (fun q4 => ?_) (fun q4 => ?_)
  · have h := h.1 q4
    refine v_iconst 163 rfl ?_
    exact h
  · have h := h.2 q4
    refine v_iload 161 4 rfl rfl ?_
    refine v_goto 162 rfl (tgt := 278) rfl ?_
    exact h
set_option maxHeartbeats 8000000 in
set_option maxRecDepth 4000 in
theorem bX12_shapes_278 {d n : Nat} {dy : Nat → Shp} {g : Hp} {P : Pst} {x1 : Int} {x2 : Int} {x3 : Int} {x4 : Int} {x5 : Int} {xs1 : Int} {xs2 : Int} (hn : 100 ≤ n) (h : (0 ≤ xs1 ∧ xs1 < 200) ∧ (i3 xs2) ∧ (i3 x5) ∧ ((0 ≤ x5) → (0 ≤ x3 ∧ x3 < 60) ∧ Runs miX12_arm d [.ref 53, I_ x3, I_ (1 - x4)] n (W0 dy) (up2 g 91 xs1.toNat xs2) (fun v n' S' g' => V miX12_shapes (d + 1) 311 [(0, .ref 53), (1, I_ x1), (2, I_ (x2 + 1)), (3, I_ x3), (4, I_ x4), (5, I_ x5)] (v.toList ++ [L_ (g 86 x3.toNat), I_ x5, .ref 86]) n' S' g' 0 0 P)) ∧ ((x5 < 0) → V miX12_shapes (d + 1) 406 [(0, .ref 53), (1, I_ x1), (2, I_ (x2 + 1)), (3, I_ x3), (4, I_ x4), (5, I_ x5)] [] n (W0 dy) (up2 g 91 xs1.toNat xs2) 0 0 P)) : V miX12_shapes (d + 1) 278 [(0, .ref 53), (1, I_ x1), (2, I_ x2), (3, I_ x3), (4, I_ x4), (5, I_ x5)] [I_ xs2, I_ xs1, .ref 91] n (W0 dy) g 0 0 P := by
  have c1 := h.1
  have h := h.2
  have c2 := h.1
  have h := h.2
  refine v_iast (N := 200) 164 rfl (al 91 rfl hn) (wk91 dy) (wn91 dy) (by decide) c1 c2 ?_
  refine v_iinc 165 2 [1, 2, 0, 3, 4, 5] rfl rfl (by decide) rfl ?_
  refine v_iload 166 5 rfl rfl ?_
  have c3 := h.1
  have h := h.2
  refine v_if_ge 167 rfl (tgt := 290) rfl c3 (fun q7 => ?_) (fun q7 => ?_)
  · have h := h.1 q7
    refine v_aload_n 169 0 rfl rfl rfl ?_
    refine v_gK 170 rfl fl12_109_11.r (al 53 rfl hn) (wk53 dy) (by decide) rfl (r := 86) (wc53_43 dy) ?_
    refine v_iload 171 5 rfl rfl ?_
    refine v_aload_n 172 0 rfl rfl rfl ?_
    refine v_gK 173 rfl fl12_109_11.r (al 53 rfl hn) (wk53 dy) (by decide) rfl (r := 86) (wc53_43 dy) ?_
    refine v_iload_n 174 3 rfl rfl rfl ?_
    have c4 := h.1
    have h := h.2
    refine v_la (N := 60) 175 rfl (al 86 rfl hn) (wk86 dy) (wn86 dy) (by decide) c4 (y := g 86 x3.toNat) rfl ?_
    refine v_rng fun w5 => ?_
    have r6 : i6 (g 86 x3.toNat) := rL w5 (q := x3.toNat) (al 86 rfl hn) (wk86 dy) rfl rfl
    refine v_aload_n 176 0 rfl rfl rfl ?_
    refine v_iload_n 177 3 rfl rfl rfl ?_
    refine v_iconst 178 rfl ?_
    refine v_iload 179 4 rfl rfl ?_
    refine v_isub 180 rfl ?_
    refine v_callV (st := [L_ (g 86 x3.toNat), I_ x5, .ref 86]) [I_ x3, I_ (1 - x4)] 181 rfl lv12_300_shapes_11 (al 53 rfl hn) (wk53 dy) (by decide) rfl (Nat.le_refl _) (Nat.le_refl _) ?_
    exact h
  · have h := h.2 q7
    refine v_goto 168 rfl (tgt := 406) rfl ?_
    exact h
set_option maxHeartbeats 8000000 in
set_option maxRecDepth 4000 in
theorem bX12_shapes_311 {d n : Nat} {dy : Nat → Shp} {g : Hp} {P : Pst} {x1 : Int} {x2 : Int} {x3 : Int} {x4 : Int} {x5 : Int} {xs1 : Int} {xs2 : Int} {xs3 : Int} (hn : 100 ≤ n) (h : (i3 xs3) ∧ (0 ≤ xs1 ∧ xs1 < 60) ∧ (i6 (xs2 * xs3)) ∧ (0 ≤ x3 ∧ x3 < 60) ∧ (0 ≤ x5 ∧ x5 < 60) ∧ (i6 ((g 87 x3.toNat) * (g 59 x3.toNat))) ∧ Runs miX12_common d [L_ ((up2 g 86 xs1.toNat (xs2 * xs3)) 86 x5.toNat), L_ ((up2 (up2 g 86 xs1.toNat (xs2 * xs3)) 87 x5.toNat ((g 87 x3.toNat) * (g 59 x3.toNat))) 87 x5.toNat)] n (W0 dy) (up2 (up2 g 86 xs1.toNat (xs2 * xs3)) 87 x5.toNat ((g 87 x3.toNat) * (g 59 x3.toNat))) (fun v n' S' g' => V miX12_shapes (d + 1) 352 [(0, .ref 53), (1, I_ x1), (2, I_ x2), (3, I_ x3), (4, I_ x4), (5, I_ x5)] (v.toList ++ []) n' S' g' 0 0 P)) : V miX12_shapes (d + 1) 311 [(0, .ref 53), (1, I_ x1), (2, I_ x2), (3, I_ x3), (4, I_ x4), (5, I_ x5)] [I_ xs3, L_ xs2, I_ xs1, .ref 86] n (W0 dy) g 0 0 P := by
  have c1 := h.1
  have h := h.2
  refine v_i2l 182 rfl c1 ?_
  refine v_lmul 183 rfl ?_
  have c2 := h.1
  have h := h.2
  have c3 := h.1
  have h := h.2
  refine v_last (N := 60) 184 rfl (al 86 rfl hn) (wk86 dy) (wn86 dy) (by decide) c2 c3 ?_
  refine v_aload_n 185 0 rfl rfl rfl ?_
  refine v_gK 186 rfl fl12_112_11.r (al 53 rfl hn) (wk53 dy) (by decide) rfl (r := 87) (wc53_44 dy) ?_
  refine v_iload 187 5 rfl rfl ?_
  refine v_aload_n 188 0 rfl rfl rfl ?_
  refine v_gK 189 rfl fl12_112_11.r (al 53 rfl hn) (wk53 dy) (by decide) rfl (r := 87) (wc53_44 dy) ?_
  refine v_iload_n 190 3 rfl rfl rfl ?_
  have c4 := h.1
  have h := h.2
  refine v_la (N := 60) 191 rfl (al 87 rfl hn) (wk87 dy) (wn87 dy) (by decide) c4 (y := g 87 x3.toNat) rfl ?_
  refine v_rng fun w5 => ?_
  have r6 : i6 (g 87 x3.toNat) := rL w5 (q := x3.toNat) (al 87 rfl hn) (wk87 dy) rfl rfl
  refine v_aload_n 192 0 rfl rfl rfl ?_
  refine v_gK 193 rfl fl12_26_11.r (al 53 rfl hn) (wk53 dy) (by decide) rfl (r := 59) (wc53_8 dy) ?_
  refine v_iload_n 194 3 rfl rfl rfl ?_
  refine v_ia (N := 60) 195 rfl (al 59 rfl hn) (wk59 dy) (wn59 dy) (by decide) c4 (y := g 59 x3.toNat) rfl ?_
  refine v_rng fun w7 => ?_
  have r8 : i3 (g 59 x3.toNat) := rI w7 (q := x3.toNat) (al 59 rfl hn) (wk59 dy) rfl rfl
  refine v_i2l 196 rfl r8 ?_
  refine v_lmul 197 rfl ?_
  have c9 := h.1
  have h := h.2
  have c10 := h.1
  have h := h.2
  refine v_last (N := 60) 198 rfl (al 87 rfl hn) (wk87 dy) (wn87 dy) (by decide) c9 c10 ?_
  refine v_aload_n 199 0 rfl rfl rfl ?_
  refine v_gK 200 rfl fl12_109_11.r (al 53 rfl hn) (wk53 dy) (by decide) rfl (r := 86) (wc53_43 dy) ?_
  refine v_iload 201 5 rfl rfl ?_
  refine v_la (N := 60) 202 rfl (al 86 rfl hn) (wk86 dy) (wn86 dy) (by decide) c9 (y := (up2 g 86 xs1.toNat (xs2 * xs3)) 86 x5.toNat) rfl ?_
  refine v_rng fun w11 => ?_
  have r12 : i6 ((up2 g 86 xs1.toNat (xs2 * xs3)) 86 x5.toNat) := rL w11 (q := x5.toNat) (al 86 rfl hn) (wk86 dy) rfl rfl
  refine v_aload_n 203 0 rfl rfl rfl ?_
  refine v_gK 204 rfl fl12_112_11.r (al 53 rfl hn) (wk53 dy) (by decide) rfl (r := 87) (wc53_44 dy) ?_
  refine v_iload 205 5 rfl rfl ?_
  refine v_la (N := 60) 206 rfl (al 87 rfl hn) (wk87 dy) (wn87 dy) (by decide) c9 (y := (up2 (up2 g 86 xs1.toNat (xs2 * xs3)) 87 x5.toNat ((g 87 x3.toNat) * (g 59 x3.toNat))) 87 x5.toNat) rfl ?_
  refine v_rng fun w13 => ?_
  have r14 : i6 ((up2 (up2 g 86 xs1.toNat (xs2 * xs3)) 87 x5.toNat ((g 87 x3.toNat) * (g 59 x3.toNat))) 87 x5.toNat) := rL w13 (q := x5.toNat) (al 87 rfl hn) (wk87 dy) rfl rfl
  refine v_callS (st := []) [L_ ((up2 g 86 xs1.toNat (xs2 * xs3)) 86 x5.toNat), L_ ((up2 (up2 g 86 xs1.toNat (xs2 * xs3)) 87 x5.toNat ((g 87 x3.toNat) * (g 59 x3.toNat))) 87 x5.toNat)] 207 rfl ls12_227_shapes rfl (Nat.lt_of_lt_of_le (by decide) hn) (Nat.le_refl _) (Nat.le_refl _) ?_
  exact h
set_option maxHeartbeats 8000000 in
set_option maxRecDepth 4000 in
theorem bX12_shapes_352 {d n : Nat} {dy : Nat → Shp} {g : Hp} {P : Pst} {x1 : Int} {x2 : Int} {x3 : Int} {x4 : Int} {x5 : Int} {xs0 : Int} (hn : 100 ≤ n) (h : (0 ≤ x5 ∧ x5 < 60) ∧ (i6 xs0) ∧ (xs0 ≠ 0) ∧ (i6 ((g 86 x5.toNat).tdiv xs0)) ∧ (xs0 ≠ 0) ∧ (i6 ((g 87 x5.toNat).tdiv xs0)) ∧ (i6 (10000000 * ((up2 g 86 x5.toNat ((g 86 x5.toNat).tdiv xs0)) 86 x5.toNat))) ∧ ((((up2 (up2 g 86 x5.toNat ((g 86 x5.toNat).tdiv xs0)) 87 x5.toNat ((g 87 x5.toNat).tdiv xs0)) 87 x5.toNat) ≤ (10000000 * ((up2 g 86 x5.toNat ((g 86 x5.toNat).tdiv xs0)) 86 x5.toNat))) → V miX12_shapes (d + 1) 406 [(0, .ref 53), (1, I_ x1), (2, I_ x2), (3, I_ x3), (4, I_ x4), (5, I_ x5)] [] n (W0 dy) (up2 (up2 g 86 x5.toNat ((g 86 x5.toNat).tdiv xs0)) 87 x5.toNat ((g 87 x5.toNat).tdiv xs0)) 0 0 P) ∧ (((10000000 * ((up2 g 86 x5.toNat ((g 86 x5.toNat).tdiv xs0)) 86 x5.toNat)) < ((up2 (up2 g 86 x5.toNat ((g 86 x5.toNat).tdiv xs0)) 87 x5.toNat ((g 87 x5.toNat).tdiv xs0)) 87 x5.toNat)) → Runs miX12_shapesOn d [.ref 53, I_ x1] n (W0 dy) (up2 (up2 g 86 x5.toNat ((g 86 x5.toNat).tdiv xs0)) 87 x5.toNat ((g 87 x5.toNat).tdiv xs0)) (fun v n' S' g' => V miX12_shapes (d + 1) 405 [(0, .ref 53), (1, I_ x1), (2, I_ x2), (3, I_ x3), (4, I_ x4), (5, I_ x5), (6, L_ xs0)] (v.toList ++ []) n' S' g' 0 0 P))) : V miX12_shapes (d + 1) 352 [(0, .ref 53), (1, I_ x1), (2, I_ x2), (3, I_ x3), (4, I_ x4), (5, I_ x5)] [L_ xs0] n (W0 dy) g 0 0 P := by
  refine v_lstore 208 [1, 2, 3, 4, 5, 6, 0] rfl (by decide) rfl ?_
  refine v_aload_n 209 0 rfl rfl rfl ?_
  refine v_gK 210 rfl fl12_109_11.r (al 53 rfl hn) (wk53 dy) (by decide) rfl (r := 86) (wc53_43 dy) ?_
  refine v_iload 211 5 rfl rfl ?_
  refine v_dup2 212 rfl (by intro h; cases h) (by intro h; cases h) ?_
  have c1 := h.1
  have h := h.2
  refine v_la (N := 60) 213 rfl (al 86 rfl hn) (wk86 dy) (wn86 dy) (by decide) c1 (y := g 86 x5.toNat) rfl ?_
  refine v_rng fun w2 => ?_
  have r3 : i6 (g 86 x5.toNat) := rL w2 (q := x5.toNat) (al 86 rfl hn) (wk86 dy) rfl rfl
  refine v_lload 214 6 rfl rfl ?_
  have c4 := h.1
  have h := h.2
  have c5 := h.1
  have h := h.2
  refine v_ldiv 215 rfl r3 c4 c5 ?_
  have c6 := h.1
  have h := h.2
  refine v_last (N := 60) 216 rfl (al 86 rfl hn) (wk86 dy) (wn86 dy) (by decide) c1 c6 ?_
  refine v_aload_n 217 0 rfl rfl rfl ?_
  refine v_gK 218 rfl fl12_112_11.r (al 53 rfl hn) (wk53 dy) (by decide) rfl (r := 87) (wc53_44 dy) ?_
  refine v_iload 219 5 rfl rfl ?_
  refine v_dup2 220 rfl (by intro h; cases h) (by intro h; cases h) ?_
  refine v_la (N := 60) 221 rfl (al 87 rfl hn) (wk87 dy) (wn87 dy) (by decide) c1 (y := g 87 x5.toNat) rfl ?_
  refine v_rng fun w7 => ?_
  have r8 : i6 (g 87 x5.toNat) := rL w7 (q := x5.toNat) (al 87 rfl hn) (wk87 dy) rfl rfl
  refine v_lload 222 6 rfl rfl ?_
  have c9 := h.1
  have h := h.2
  refine v_ldiv 223 rfl r8 c4 c9 ?_
  have c10 := h.1
  have h := h.2
  refine v_last (N := 60) 224 rfl (al 87 rfl hn) (wk87 dy) (wn87 dy) (by decide) c1 c10 ?_
  refine v_aload_n 225 0 rfl rfl rfl ?_
  refine v_gK 226 rfl fl12_112_11.r (al 53 rfl hn) (wk53 dy) (by decide) rfl (r := 87) (wc53_44 dy) ?_
  refine v_iload 227 5 rfl rfl ?_
  refine v_la (N := 60) 228 rfl (al 87 rfl hn) (wk87 dy) (wn87 dy) (by decide) c1 (y := (up2 (up2 g 86 x5.toNat ((g 86 x5.toNat).tdiv xs0)) 87 x5.toNat ((g 87 x5.toNat).tdiv xs0)) 87 x5.toNat) rfl ?_
  refine v_rng fun w11 => ?_
  have r12 : i6 ((up2 (up2 g 86 x5.toNat ((g 86 x5.toNat).tdiv xs0)) 87 x5.toNat ((g 87 x5.toNat).tdiv xs0)) 87 x5.toNat) := rL w11 (q := x5.toNat) (al 87 rfl hn) (wk87 dy) rfl rfl
  refine v_ldc2 (v := 10000000) 229 rfl (tbG_in (List.mem_append_right _ (List.mem_of_getElem? (i := 1606) (by decide +kernel))) rfl) ?_
  refine v_aload_n 230 0 rfl rfl rfl ?_
  refine v_gK 231 rfl fl12_109_11.r (al 53 rfl hn) (wk53 dy) (by decide) rfl (r := 86) (wc53_43 dy) ?_
  refine v_iload 232 5 rfl rfl ?_
  refine v_la (N := 60) 233 rfl (al 86 rfl hn) (wk86 dy) (wn86 dy) (by decide) c1 (y := (up2 g 86 x5.toNat ((g 86 x5.toNat).tdiv xs0)) 86 x5.toNat) rfl ?_
  refine v_rng fun w13 => ?_
  have r14 : i6 ((up2 g 86 x5.toNat ((g 86 x5.toNat).tdiv xs0)) 86 x5.toNat) := rL w13 (q := x5.toNat) (al 86 rfl hn) (wk86 dy) rfl rfl
  refine v_lmul 234 rfl ?_
  have c15 := h.1
  have h := h.2
  refine v_lif_le 235 rfl rfl (tgt := 406) rfl r12 c15 (fun q16 => ?_) (fun q16 => ?_)
  · have h := h.1 q16
    refine v_loc [0, 1, 2, 3, 4, 5] rfl ?_
    exact h
  · have h := h.2 q16
    refine v_aload_n 237 0 rfl rfl rfl ?_
    refine v_iload_n 238 1 rfl rfl rfl ?_
    refine v_callV (st := []) [I_ x1] 239 rfl lv12_345_shapes_11 (al 53 rfl hn) (wk53 dy) (by decide) rfl (Nat.le_refl _) (Nat.le_refl _) ?_
    exact h
set_option maxHeartbeats 8000000 in
set_option maxRecDepth 4000 in
theorem bX12_shapes_405 {d n : Nat} {dy : Nat → Shp} {g : Hp} {P : Pst} {x1 : Int} {x2 : Int} {x3 : Int} {x4 : Int} {x5 : Int} {x6 : Int} {xs0 : Int} (hn : 100 ≤ n) (h : P (some (I_ xs0)) n (W0 dy) g) : V miX12_shapes (d + 1) 405 [(0, .ref 53), (1, I_ x1), (2, I_ x2), (3, I_ x3), (4, I_ x4), (5, I_ x5), (6, L_ x6)] [I_ xs0] n (W0 dy) g 0 0 P := by
  exact v_ret (v := some (I_ xs0)) 240 rfl (Nat.zero_le _) (Nat.zero_le _) trivial rfl h
set_option maxHeartbeats 8000000 in
set_option maxRecDepth 4000 in
theorem bX12_shapes_406 {d n : Nat} {dy : Nat → Shp} {g : Hp} {P : Pst} {x1 : Int} {x2 : Int} {x3 : Int} {x4 : Int} {x5 : Int} (hn : 100 ≤ n) (h : V miX12_shapes (d + 1) 218 [(0, .ref 53), (1, I_ x1), (2, I_ x2), (3, I_ x3), (4, I_ (x4 + (-1)))] [] n (W0 dy) g 0 0 P) : V miX12_shapes (d + 1) 406 [(0, .ref 53), (1, I_ x1), (2, I_ x2), (3, I_ x3), (4, I_ x4), (5, I_ x5)] [] n (W0 dy) g 0 0 P := by
  refine v_iinc 241 4 [1, 2, 3, 4, 0, 5] rfl rfl (by decide) rfl ?_
  refine v_goto 242 rfl (tgt := 218) rfl ?_
  refine v_loc [0, 1, 2, 3, 4] rfl ?_
  exact h
set_option maxHeartbeats 8000000 in
set_option maxRecDepth 4000 in
theorem bX12_shapes_429 {d n : Nat} {dy : Nat → Shp} {g : Hp} {P : Pst} {x1 : Int} {x2 : Int} {xs0 : Int} (hn : 100 ≤ n) (h : P (some (I_ xs0)) n (W0 dy) g) : V miX12_shapes (d + 1) 429 [(0, .ref 53), (1, I_ x1), (2, I_ x2)] [I_ xs0] n (W0 dy) g 0 0 P := by
  exact v_ret (v := some (I_ xs0)) 251 rfl (Nat.zero_le _) (Nat.zero_le _) trivial rfl h
theorem fl12_348_11 : FL RX12 348 11 51 false .boolean := ⟨RX12, TX12, 58, "MobileMakerModel", rfl, rfl, by decide, kf11, tbG_in (List.mem_append_right _ (List.mem_of_getElem? (i := 1178) (by decide +kernel))) rfl, Or.inl rfl, rfl, by decide +kernel, ⟨tyX12, tyX12_ok⟩, nmX12, fun h => by cases h⟩
theorem lv12_243_shapesOn_11 : LkV miX12_shapesOn miX12_isAbove 243 2 11 := ⟨⟨⟨tbG_in (List.mem_append_right _ (List.mem_of_getElem? (i := 1436) (by decide +kernel))) rfl, tbG_in (List.mem_append_right _ (List.mem_of_getElem? (i := 9) (by decide +kernel))) rfl, tbG_in (List.mem_append_right _ (List.mem_of_getElem? (i := 1433) (by decide +kernel))) rfl⟩, ⟨by decide +kernel, by decide +kernel, by decide +kernel⟩, by decide⟩, tbG_in (List.mem_append_right _ (List.mem_of_getElem? (i := 1435) (by decide +kernel))) rfl, RX12, TX12, 58, rfl, tbG_in (List.mem_append_left _ (List.mem_of_getElem? (i := 61) (by decide +kernel))) rfl⟩
theorem lv12_237_shapesOn_11 : LkV miX12_shapesOn miX12_isRod 237 1 11 := ⟨⟨⟨tbG_in (List.mem_append_right _ (List.mem_of_getElem? (i := 1428) (by decide +kernel))) rfl, tbG_in (List.mem_append_right _ (List.mem_of_getElem? (i := 9) (by decide +kernel))) rfl, tbG_in (List.mem_append_right _ (List.mem_of_getElem? (i := 1425) (by decide +kernel))) rfl⟩, ⟨by decide +kernel, by decide +kernel, by decide +kernel⟩, by decide⟩, tbG_in (List.mem_append_right _ (List.mem_of_getElem? (i := 1427) (by decide +kernel))) rfl, RX12, TX12, 58, rfl, tbG_in (List.mem_append_left _ (List.mem_of_getElem? (i := 60) (by decide +kernel))) rfl⟩
theorem lv12_297_shapesOn_11 : LkV miX12_shapesOn miX12_isWhole 297 1 11 := ⟨⟨⟨tbG_in (List.mem_append_right _ (List.mem_of_getElem? (i := 1533) (by decide +kernel))) rfl, tbG_in (List.mem_append_right _ (List.mem_of_getElem? (i := 9) (by decide +kernel))) rfl, tbG_in (List.mem_append_right _ (List.mem_of_getElem? (i := 1530) (by decide +kernel))) rfl⟩, ⟨by decide +kernel, by decide +kernel, by decide +kernel⟩, by decide⟩, tbG_in (List.mem_append_right _ (List.mem_of_getElem? (i := 1532) (by decide +kernel))) rfl, RX12, TX12, 58, rfl, tbG_in (List.mem_append_left _ (List.mem_of_getElem? (i := 75) (by decide +kernel))) rfl⟩
set_option maxHeartbeats 8000000 in
set_option maxRecDepth 4000 in
theorem bX12_shapesOn_0 {d n : Nat} {dy : Nat → Shp} {g : Hp} {P : Pst} {x1 : Int} (hn : 100 ≤ n) (h : V miX12_shapesOn (d + 1) 12 [(0, .ref 53), (1, I_ x1), (2, I_ 0)] [] n (W0 dy) (up2 (up2 g 53 51 1) 53 41 0) 0 0 P) : V miX12_shapesOn (d + 1) 0 [(0, .ref 53), (1, I_ x1)] [] n (W0 dy) g 0 0 P := by
  refine v_aload_n 0 0 rfl rfl rfl ?_
  refine v_iconst 1 rfl ?_
  refine v_putZ 2 rfl fl12_348_11 (al 53 rfl hn) (wk53 dy) (by decide) rfl (wc53_51 dy) (Or.inr rfl) ?_
  refine v_aload_n 3 0 rfl rfl rfl ?_
  refine v_iconst 4 rfl ?_
  refine v_putI 5 rfl fl12_340_11 (al 53 rfl hn) (wk53 dy) (by decide) rfl (wc53_41 dy) (by decide) ?_
  refine v_iconst 6 rfl ?_
  refine v_istore_n 7 [1, 2, 0] rfl rfl (by decide) rfl ?_
  exact h
set_option maxHeartbeats 8000000 in
set_option maxRecDepth 4000 in
theorem bX12_shapesOn_12 {d n : Nat} {dy : Nat → Shp} {g : Hp} {P : Pst} {x1 : Int} {x2 : Int} (hn : 100 ≤ n) (h : (i3 x2) ∧ (((g 53 5) ≤ x2) → (((g 53 41) < 2) → V miX12_shapesOn (d + 1) 129 [(0, .ref 53), (1, I_ x1), (2, I_ x2)] [] n (W0 dy) g 0 0 P) ∧ ((2 ≤ (g 53 41)) → (((g 53 41) ≤ 8) → V miX12_shapesOn (d + 1) 135 [(0, .ref 53), (1, I_ x1), (2, I_ x2)] [I_ 0] n (W0 dy) g 0 0 P) ∧ ((8 < (g 53 41)) → V miX12_shapesOn (d + 1) 129 [(0, .ref 53), (1, I_ x1), (2, I_ x2)] [] n (W0 dy) g 0 0 P))) ∧ ((x2 < (g 53 5)) → Runs miX12_isAbove d [.ref 53, I_ x1, I_ x2] n (W0 dy) g (fun v n' S' g' => V miX12_shapesOn (d + 1) 26 [(0, .ref 53), (1, I_ x1), (2, I_ x2)] (v.toList ++ []) n' S' g' 0 0 P))) : V miX12_shapesOn (d + 1) 12 [(0, .ref 53), (1, I_ x1), (2, I_ x2)] [] n (W0 dy) g 0 0 P := by
  refine v_iload_n 8 2 rfl rfl rfl ?_
  refine v_aload_n 9 0 rfl rfl rfl ?_
  refine v_gI 10 rfl fl12_169_11.r (al 53 rfl hn) (wk53 dy) (by decide) rfl (wc53_5 dy) (x := g 53 5) rfl ?_
  refine v_rng fun w1 => ?_
  have r2 : i3 (g 53 5) := rI w1 (q := 5) (al 53 rfl hn) (wk53 dy) rfl rfl
  have c3 := h.1
  have h := h.2
  refine v_icmp_ge 11 rfl (tgt := 112) rfl c3 r2 (fun q10 => ?_) (fun q10 => ?_)
  · have h := h.1 q10
    refine v_aload_n 61 0 rfl rfl rfl ?_
    refine v_gI 62 rfl fl12_340_11.r (al 53 rfl hn) (wk53 dy) (by decide) rfl (wc53_41 dy) (x := g 53 41) rfl ?_
    refine v_rng fun w4 => ?_
    have r5 : i3 (g 53 41) := rI w4 (q := 41) (al 53 rfl hn) (wk53 dy) rfl rfl
    refine v_iconst 63 rfl ?_
    refine v_icmp_lt 64 rfl (tgt := 129) rfl r5 (by decide) (fun q9 => ?_) (fun q9 => ?_)
    · have h := h.1 q9
      exact h
    · have h := h.2 q9
      refine v_aload_n 65 0 rfl rfl rfl ?_
      refine v_gI 66 rfl fl12_340_11.r (al 53 rfl hn) (wk53 dy) (by decide) rfl (wc53_41 dy) (x := g 53 41) rfl ?_
      refine v_rng fun w6 => ?_
      have r7 : i3 (g 53 41) := rI w6 (q := 41) (al 53 rfl hn) (wk53 dy) rfl rfl
      refine v_bipush 67 rfl (by decide) ?_
      refine v_icmp_le 68 rfl (tgt := 134) rfl r7 (by decide) (fun q8 => ?_) (fun q8 => ?_)
      · have h := h.1 q8
        refine v_iconst 71 rfl ?_
        exact h
      · have h := h.2 q8
        exact h
  · have h := h.2 q10
    refine v_aload_n 12 0 rfl rfl rfl ?_
    refine v_iload_n 13 1 rfl rfl rfl ?_
    refine v_iload_n 14 2 rfl rfl rfl ?_
    refine v_callV (st := []) [I_ x1, I_ x2] 15 rfl lv12_243_shapesOn_11 (al 53 rfl hn) (wk53 dy) (by decide) rfl (Nat.le_refl _) (Nat.le_refl _) ?_
    exact h
set_option maxHeartbeats 8000000 in
set_option maxRecDepth 4000 in
theorem bX12_shapesOn_26 {d n : Nat} {dy : Nat → Shp} {g : Hp} {P : Pst} {x1 : Int} {x2 : Int} {xs0 : Int} (hn : 100 ≤ n) (h : (i3 xs0) ∧ ((xs0 ≠ 0) → Runs miX12_isRod d [.ref 53, I_ x2] n (W0 dy) g (fun v n' S' g' => V miX12_shapesOn (d + 1) 37 [(0, .ref 53), (1, I_ x1), (2, I_ x2)] (v.toList ++ []) n' S' g' 0 0 P)) ∧ ((xs0 = 0) → V miX12_shapesOn (d + 1) 106 [(0, .ref 53), (1, I_ x1), (2, I_ x2)] [] n (W0 dy) g 0 0 P)) : V miX12_shapesOn (d + 1) 26 [(0, .ref 53), (1, I_ x1), (2, I_ x2)] [I_ xs0] n (W0 dy) g 0 0 P := by
  have c1 := h.1
  have h := h.2
  refine v_if_ne 16 rfl (tgt := 32) rfl c1 (fun q2 => ?_) (fun q2 => ?_)
  · have h := h.1 q2
    refine v_aload_n 18 0 rfl rfl rfl ?_
    refine v_iload_n 19 2 rfl rfl rfl ?_
    refine v_callV (st := []) [I_ x2] 20 rfl lv12_237_shapesOn_11 (al 53 rfl hn) (wk53 dy) (by decide) rfl (Nat.le_refl _) (Nat.le_refl _) ?_
    exact h
  · have h := h.2 q2
    refine v_goto 17 rfl (tgt := 106) rfl ?_
    exact h
set_option maxHeartbeats 8000000 in
set_option maxRecDepth 4000 in
theorem bX12_shapesOn_37 {d n : Nat} {dy : Nat → Shp} {g : Hp} {P : Pst} {x1 : Int} {x2 : Int} {xs0 : Int} (hn : 100 ≤ n) (h : (i3 xs0) ∧ ((xs0 = 0) → V miX12_shapesOn (d + 1) 57 [(0, .ref 53), (1, I_ x1), (2, I_ x2)] [] n (W0 dy) g 0 0 P) ∧ ((xs0 ≠ 0) → (0 ≤ x2 ∧ x2 < 60) ∧ (((g 58 x2.toNat) ≠ 0) → V miX12_shapesOn (d + 1) 57 [(0, .ref 53), (1, I_ x1), (2, I_ x2)] [] n (W0 dy) g 0 0 P) ∧ (((g 58 x2.toNat) = 0) → Runs miX12_isWhole d [.ref 53, I_ x2] n (W0 dy) g (fun v n' S' g' => V miX12_shapesOn (d + 1) 54 [(0, .ref 53), (1, I_ x1), (2, I_ x2)] (v.toList ++ []) n' S' g' 0 0 P)))) : V miX12_shapesOn (d + 1) 37 [(0, .ref 53), (1, I_ x1), (2, I_ x2)] [I_ xs0] n (W0 dy) g 0 0 P := by
  have c1 := h.1
  have h := h.2
  refine v_if_eq 21 rfl (tgt := 57) rfl c1 (fun q6 => ?_) (fun q6 => ?_)
  · have h := h.1 q6
    exact h
  · have h := h.2 q6
    refine v_aload_n 22 0 rfl rfl rfl ?_
    refine v_gK 23 rfl fl12_23_11.r (al 53 rfl hn) (wk53 dy) (by decide) rfl (r := 58) (wc53_7 dy) ?_
    refine v_iload_n 24 2 rfl rfl rfl ?_
    have c2 := h.1
    have h := h.2
    refine v_ia (N := 60) 25 rfl (al 58 rfl hn) (wk58 dy) (wn58 dy) (by decide) c2 (y := g 58 x2.toNat) rfl ?_
    refine v_rng fun w3 => ?_
    have r4 : i3 (g 58 x2.toNat) := rI w3 (q := x2.toNat) (al 58 rfl hn) (wk58 dy) rfl rfl
    refine v_if_ne 26 rfl (tgt := 57) rfl r4 (fun q5 => ?_) (fun q5 => ?_)
    · have h := h.1 q5
      exact h
    · have h := h.2 q5
      refine v_aload_n 27 0 rfl rfl rfl ?_
      refine v_iload_n 28 2 rfl rfl rfl ?_
      refine v_callV (st := []) [I_ x2] 29 rfl lv12_297_shapesOn_11 (al 53 rfl hn) (wk53 dy) (by decide) rfl (Nat.le_refl _) (Nat.le_refl _) ?_
      exact h
set_option maxHeartbeats 8000000 in
set_option maxRecDepth 4000 in
theorem bX12_shapesOn_54 {d n : Nat} {dy : Nat → Shp} {g : Hp} {P : Pst} {x1 : Int} {x2 : Int} {xs0 : Int} (hn : 100 ≤ n) (h : (i3 xs0) ∧ ((xs0 ≠ 0) → (0 ≤ x2 ∧ x2 < 60) ∧ ((0 ≤ (g 66 x2.toNat)) → V miX12_shapesOn (d + 1) 79 [(0, .ref 53), (1, I_ x1), (2, I_ x2)] [I_ 0, I_ (g 53 41), .ref 53] n (W0 dy) g 0 0 P) ∧ (((g 66 x2.toNat) < 0) → V miX12_shapesOn (d + 1) 79 [(0, .ref 53), (1, I_ x1), (2, I_ x2)] [I_ 1, I_ (g 53 41), .ref 53] n (W0 dy) g 0 0 P)) ∧ ((xs0 = 0) → V miX12_shapesOn (d + 1) 57 [(0, .ref 53), (1, I_ x1), (2, I_ x2)] [] n (W0 dy) g 0 0 P)) : V miX12_shapesOn (d + 1) 54 [(0, .ref 53), (1, I_ x1), (2, I_ x2)] [I_ xs0] n (W0 dy) g 0 0 P := by
  have c1 := h.1
  have h := h.2
  refine v_if_ne 30 rfl (tgt := 60) rfl c1 (fun q8 => ?_) (fun q8 => ?_)
  · have h := h.1 q8
    refine v_aload_n 33 0 rfl rfl rfl ?_
    refine v_dup 34 rfl (by intro h; cases h) ?_
    refine v_gI 35 rfl fl12_340_11.r (al 53 rfl hn) (wk53 dy) (by decide) rfl (wc53_41 dy) (x := g 53 41) rfl ?_
    refine v_rng fun w2 => ?_
    have r3 : i3 (g 53 41) := rI w2 (q := 41) (al 53 rfl hn) (wk53 dy) rfl rfl
    refine v_aload_n 36 0 rfl rfl rfl ?_
    refine v_gK 37 rfl fl12_47_11.r (al 53 rfl hn) (wk53 dy) (by decide) rfl (r := 66) (wc53_15 dy) ?_
    refine v_iload_n 38 2 rfl rfl rfl ?_
    have c4 := h.1
    have h := h.2
    refine v_ia (N := 60) 39 rfl (al 66 rfl hn) (wk66 dy) (wn66 dy) (by decide) c4 (y := g 66 x2.toNat) rfl ?_
    refine v_rng fun w5 => ?_
    have r6 : i3 (g 66 x2.toNat) := rI w5 (q := x2.toNat) (al 66 rfl hn) (wk66 dy) rfl rfl
    refine v_if_ge 40 rfl (tgt := 78) rfl r6 (fun q7 => ?_) (fun q7 => ?_)
    · have h := h.1 q7
      refine v_iconst 43 rfl ?_
      exact h
    · have h := h.2 q7
      refine v_iconst 41 rfl ?_
      refine v_goto 42 rfl (tgt := 79) rfl ?_
      exact h
  · have h := h.2 q8
    exact h
set_option maxHeartbeats 8000000 in
set_option maxRecDepth 4000 in
theorem bX12_shapesOn_57 {d n : Nat} {dy : Nat → Shp} {g : Hp} {P : Pst} {x1 : Int} {x2 : Int} (hn : 100 ≤ n) (h : P (some (I_ 9)) n (W0 dy) g) : V miX12_shapesOn (d + 1) 57 [(0, .ref 53), (1, I_ x1), (2, I_ x2)] [] n (W0 dy) g 0 0 P := by
  refine v_bipush 31 rfl (by decide) ?_
  exact v_ret (v := some (I_ 9)) 32 rfl (Nat.zero_le _) (Nat.zero_le _) trivial rfl h
set_option maxHeartbeats 8000000 in
set_option maxRecDepth 4000 in
theorem bX12_shapesOn_79 {d n : Nat} {dy : Nat → Shp} {g : Hp} {P : Pst} {x1 : Int} {x2 : Int} {xs1 : Int} {xs2 : Int} (hn : 100 ≤ n) (h : (i3 (xs1 + xs2)) ∧ (0 ≤ x2 ∧ x2 < 60) ∧ ((0 ≤ (g 67 x2.toNat)) → V miX12_shapesOn (d + 1) 102 [(0, .ref 53), (1, I_ x1), (2, I_ x2)] [I_ 0, I_ (xs1 + xs2), .ref 53] n (W0 dy) (up2 g 53 41 (xs1 + xs2)) 0 0 P) ∧ (((g 67 x2.toNat) < 0) → V miX12_shapesOn (d + 1) 102 [(0, .ref 53), (1, I_ x1), (2, I_ x2)] [I_ 1, I_ (xs1 + xs2), .ref 53] n (W0 dy) (up2 g 53 41 (xs1 + xs2)) 0 0 P)) : V miX12_shapesOn (d + 1) 79 [(0, .ref 53), (1, I_ x1), (2, I_ x2)] [I_ xs2, I_ xs1, .ref 53] n (W0 dy) g 0 0 P := by
  refine v_iadd 44 rfl ?_
  have c1 := h.1
  have h := h.2
  refine v_putI 45 rfl fl12_340_11 (al 53 rfl hn) (wk53 dy) (by decide) rfl (wc53_41 dy) c1 ?_
  refine v_aload_n 46 0 rfl rfl rfl ?_
  refine v_dup 47 rfl (by intro h; cases h) ?_
  refine v_gI 48 rfl fl12_340_11.r (al 53 rfl hn) (wk53 dy) (by decide) rfl (wc53_41 dy) (x := xs1 + xs2) rfl ?_
  refine v_rng fun w2 => ?_
  have r3 : i3 (xs1 + xs2) := rI w2 (q := 41) (al 53 rfl hn) (wk53 dy) rfl rfl
  refine v_aload_n 49 0 rfl rfl rfl ?_
  refine v_gK 50 rfl fl12_50_11.r (al 53 rfl hn) (wk53 dy) (by decide) rfl (r := 67) (wc53_16 dy) ?_
  refine v_iload_n 51 2 rfl rfl rfl ?_
  have c4 := h.1
  have h := h.2
  refine v_ia (N := 60) 52 rfl (al 67 rfl hn) (wk67 dy) (wn67 dy) (by decide) c4 (y := g 67 x2.toNat) rfl ?_
  refine v_rng fun w5 => ?_
  have r6 : i3 (g 67 x2.toNat) := rI w5 (q := x2.toNat) (al 67 rfl hn) (wk67 dy) rfl rfl
  refine v_if_ge 53 rfl (tgt := 101) rfl r6 (fun q7 => ?_) (fun q7 => ?_)
  · have h := h.1 q7
    refine v_iconst 56 rfl ?_
    exact h
  · have h := h.2 q7
    refine v_iconst 54 rfl ?_
    refine v_goto 55 rfl (tgt := 102) rfl ?_
    exact h
set_option maxHeartbeats 8000000 in
set_option maxRecDepth 4000 in
theorem bX12_shapesOn_102 {d n : Nat} {dy : Nat → Shp} {g : Hp} {P : Pst} {x1 : Int} {x2 : Int} {xs1 : Int} {xs2 : Int} (hn : 100 ≤ n) (h : (i3 (xs1 + xs2)) ∧ V miX12_shapesOn (d + 1) 106 [(0, .ref 53), (1, I_ x1), (2, I_ x2)] [] n (W0 dy) (up2 g 53 41 (xs1 + xs2)) 0 0 P) : V miX12_shapesOn (d + 1) 102 [(0, .ref 53), (1, I_ x1), (2, I_ x2)] [I_ xs2, I_ xs1, .ref 53] n (W0 dy) g 0 0 P := by
  refine v_iadd 57 rfl ?_
  have c1 := h.1
  have h := h.2
  refine v_putI 58 rfl fl12_340_11 (al 53 rfl hn) (wk53 dy) (by decide) rfl (wc53_41 dy) c1 ?_
  exact h
set_option maxHeartbeats 8000000 in
set_option maxRecDepth 4000 in
theorem bX12_shapesOn_106 {d n : Nat} {dy : Nat → Shp} {g : Hp} {P : Pst} {x1 : Int} {x2 : Int} (hn : 100 ≤ n) (h : V miX12_shapesOn (d + 1) 12 [(0, .ref 53), (1, I_ x1), (2, I_ (x2 + 1))] [] n (W0 dy) g 0 0 P) : V miX12_shapesOn (d + 1) 106 [(0, .ref 53), (1, I_ x1), (2, I_ x2)] [] n (W0 dy) g 0 0 P := by
  refine v_iinc 59 2 [1, 2, 0] rfl rfl (by decide) rfl ?_
  refine v_goto 60 rfl (tgt := 12) rfl ?_
  exact h
set_option maxHeartbeats 8000000 in
set_option maxRecDepth 4000 in
theorem bX12_shapesOn_129 {d n : Nat} {dy : Nat → Shp} {g : Hp} {P : Pst} {x1 : Int} {x2 : Int} (hn : 100 ≤ n) (h : V miX12_shapesOn (d + 1) 135 [(0, .ref 53), (1, I_ x1), (2, I_ x2)] [I_ 9] n (W0 dy) g 0 0 P) : V miX12_shapesOn (d + 1) 129 [(0, .ref 53), (1, I_ x1), (2, I_ x2)] [] n (W0 dy) g 0 0 P := by
  refine v_bipush 69 rfl (by decide) ?_
  refine v_goto 70 rfl (tgt := 135) rfl ?_
  exact h
set_option maxHeartbeats 8000000 in
set_option maxRecDepth 4000 in
theorem bX12_shapesOn_135 {d n : Nat} {dy : Nat → Shp} {g : Hp} {P : Pst} {x1 : Int} {x2 : Int} {xs0 : Int} (hn : 100 ≤ n) (h : P (some (I_ xs0)) n (W0 dy) g) : V miX12_shapesOn (d + 1) 135 [(0, .ref 53), (1, I_ x1), (2, I_ x2)] [I_ xs0] n (W0 dy) g 0 0 P := by
  exact v_ret (v := some (I_ xs0)) 72 rfl (Nat.zero_le _) (Nat.zero_le _) trivial rfl h
theorem fl12_351_11 : FL RX12 351 11 42 false .int := ⟨RX12, TX12, 58, "MobileMakerModel", rfl, rfl, by decide, kf11, tbG_in (List.mem_append_right _ (List.mem_of_getElem? (i := 1169) (by decide +kernel))) rfl, Or.inl rfl, rfl, by decide +kernel, ⟨tyX12, tyX12_ok⟩, nmX12, fun h => by cases h⟩
theorem fl12_118_11 : FL RX12 118 11 46 true (.array .long) := ⟨RX12, TX12, 58, "MobileMakerModel", rfl, rfl, by decide, kf11, tbG_in (List.mem_append_right _ (List.mem_of_getElem? (i := 1173) (by decide +kernel))) rfl, Or.inl rfl, rfl, by decide +kernel, ⟨tyX12, tyX12_ok⟩, nmX12, fun _ => rfl⟩
theorem fl12_115_11 : FL RX12 115 11 45 true (.array .long) := ⟨RX12, TX12, 58, "MobileMakerModel", rfl, rfl, by decide, kf11, tbG_in (List.mem_append_right _ (List.mem_of_getElem? (i := 1172) (by decide +kernel))) rfl, Or.inl rfl, rfl, by decide +kernel, ⟨tyX12, tyX12_ok⟩, nmX12, fun _ => rfl⟩
theorem lv12_222_parted_11 : LkV miX12_parted miX12_isPart 222 1 11 := ⟨⟨⟨tbG_in (List.mem_append_right _ (List.mem_of_getElem? (i := 1400) (by decide +kernel))) rfl, tbG_in (List.mem_append_right _ (List.mem_of_getElem? (i := 9) (by decide +kernel))) rfl, tbG_in (List.mem_append_right _ (List.mem_of_getElem? (i := 1397) (by decide +kernel))) rfl⟩, ⟨by decide +kernel, by decide +kernel, by decide +kernel⟩, by decide⟩, tbG_in (List.mem_append_right _ (List.mem_of_getElem? (i := 1399) (by decide +kernel))) rfl, RX12, TX12, 58, rfl, tbG_in (List.mem_append_left _ (List.mem_of_getElem? (i := 56) (by decide +kernel))) rfl⟩
theorem lv12_237_parted_11 : LkV miX12_parted miX12_isRod 237 1 11 := ⟨⟨⟨tbG_in (List.mem_append_right _ (List.mem_of_getElem? (i := 1428) (by decide +kernel))) rfl, tbG_in (List.mem_append_right _ (List.mem_of_getElem? (i := 9) (by decide +kernel))) rfl, tbG_in (List.mem_append_right _ (List.mem_of_getElem? (i := 1425) (by decide +kernel))) rfl⟩, ⟨by decide +kernel, by decide +kernel, by decide +kernel⟩, by decide⟩, tbG_in (List.mem_append_right _ (List.mem_of_getElem? (i := 1427) (by decide +kernel))) rfl, RX12, TX12, 58, rfl, tbG_in (List.mem_append_left _ (List.mem_of_getElem? (i := 60) (by decide +kernel))) rfl⟩
theorem lv12_354_parted_11 : LkV miX12_parted miX12_shapes 354 1 11 := ⟨⟨⟨tbG_in (List.mem_append_right _ (List.mem_of_getElem? (i := 1605) (by decide +kernel))) rfl, tbG_in (List.mem_append_right _ (List.mem_of_getElem? (i := 9) (by decide +kernel))) rfl, tbG_in (List.mem_append_right _ (List.mem_of_getElem? (i := 1602) (by decide +kernel))) rfl⟩, ⟨by decide +kernel, by decide +kernel, by decide +kernel⟩, by decide⟩, tbG_in (List.mem_append_right _ (List.mem_of_getElem? (i := 1604) (by decide +kernel))) rfl, RX12, TX12, 58, rfl, tbG_in (List.mem_append_left _ (List.mem_of_getElem? (i := 88) (by decide +kernel))) rfl⟩
set_option maxHeartbeats 8000000 in
set_option maxRecDepth 4000 in
theorem bX12_parted_0 {d n : Nat} {dy : Nat → Shp} {g : Hp} {P : Pst} {x1 : Int} {x2 : Int} {x3 : Int} {x4 : Int} (hn : 100 ≤ n) (h : (i3 x2) ∧ ((x2 < 0) → V miX12_parted (d + 1) 10 [(0, .ref 53), (1, I_ x1), (2, I_ x2), (3, I_ x3), (4, I_ x4)] [] n (W0 dy) g 0 0 P) ∧ ((0 ≤ x2) → ((x2 < 6) → Runs miX12_isPart d [.ref 53, I_ x1] n (W0 dy) g (fun v n' S' g' => V miX12_parted (d + 1) 17 [(0, .ref 53), (1, I_ x1), (2, I_ x2), (3, I_ x3), (4, I_ x4)] (v.toList ++ []) n' S' g' 0 0 P)) ∧ ((6 ≤ x2) → V miX12_parted (d + 1) 10 [(0, .ref 53), (1, I_ x1), (2, I_ x2), (3, I_ x3), (4, I_ x4)] [] n (W0 dy) g 0 0 P))) : V miX12_parted (d + 1) 0 [(0, .ref 53), (1, I_ x1), (2, I_ x2), (3, I_ x3), (4, I_ x4)] [] n (W0 dy) g 0 0 P := by
  refine v_iload_n 0 2 rfl rfl rfl ?_
  have c1 := h.1
  have h := h.2
  refine v_if_lt 1 rfl (tgt := 10) rfl c1 (fun q3 => ?_) (fun q3 => ?_)
  · have h := h.1 q3
    exact h
  · have h := h.2 q3
    refine v_iload_n 2 2 rfl rfl rfl ?_
    refine v_bipush 3 rfl (by decide) ?_
    refine v_icmp_lt 4 rfl (tgt := 12) rfl c1 (by decide) (fun q2 => ?_) (fun q2 => ?_)
    · have h := h.1 q2
      refine v_aload_n 7 0 rfl rfl rfl ?_
      refine v_iload_n 8 1 rfl rfl rfl ?_
      refine v_callV (st := []) [I_ x1] 9 rfl lv12_222_parted_11 (al 53 rfl hn) (wk53 dy) (by decide) rfl (Nat.le_refl _) (Nat.le_refl _) ?_
      exact h
    · have h := h.2 q2
      exact h
set_option maxHeartbeats 8000000 in
set_option maxRecDepth 4000 in
theorem bX12_parted_10 {d n : Nat} {dy : Nat → Shp} {g : Hp} {P : Pst} {x1 : Int} {x2 : Int} {x3 : Int} {x4 : Int} (hn : 100 ≤ n) (h : P (some (I_ 1)) n (W0 dy) g) : V miX12_parted (d + 1) 10 [(0, .ref 53), (1, I_ x1), (2, I_ x2), (3, I_ x3), (4, I_ x4)] [] n (W0 dy) g 0 0 P := by
  refine v_iconst 5 rfl ?_
  exact v_ret (v := some (I_ 1)) 6 rfl (Nat.zero_le _) (Nat.zero_le _) trivial rfl h
set_option maxHeartbeats 8000000 in
set_option maxRecDepth 4000 in
theorem bX12_parted_17 {d n : Nat} {dy : Nat → Shp} {g : Hp} {P : Pst} {x1 : Int} {x2 : Int} {x3 : Int} {x4 : Int} {xs0 : Int} (hn : 100 ≤ n) (h : (i3 xs0) ∧ ((xs0 ≠ 0) → (0 ≤ x2 ∧ x2 < 6) ∧ ((0 ≤ (g 55 x2.toNat)) → (i3 x4) ∧ ((x4 = 0) → V miX12_parted (d + 1) 54 [(0, .ref 53), (1, I_ x1), (2, I_ x2), (3, I_ x3), (4, I_ x4)] [] n (W0 dy) g 0 0 P) ∧ ((x4 ≠ 0) → (i3 x3) ∧ ((x3 < 0) → V miX12_parted (d + 1) 52 [(0, .ref 53), (1, I_ x1), (2, I_ x2), (3, I_ x3), (4, I_ x4)] [] n (W0 dy) g 0 0 P) ∧ ((0 ≤ x3) → ((x3 < (g 55 x2.toNat)) → V miX12_parted (d + 1) 54 [(0, .ref 53), (1, I_ x1), (2, I_ x2), (3, I_ x3), (4, I_ x4)] [] n (W0 dy) g 0 0 P) ∧ (((g 55 x2.toNat) ≤ x3) → V miX12_parted (d + 1) 52 [(0, .ref 53), (1, I_ x1), (2, I_ x2), (3, I_ x3), (4, I_ x4)] [] n (W0 dy) g 0 0 P)))) ∧ (((g 55 x2.toNat) < 0) → P (some (I_ 3)) n (W0 dy) g)) ∧ ((xs0 = 0) → P (some (I_ 2)) n (W0 dy) g)) : V miX12_parted (d + 1) 17 [(0, .ref 53), (1, I_ x1), (2, I_ x2), (3, I_ x3), (4, I_ x4)] [I_ xs0] n (W0 dy) g 0 0 P := by
  have c1 := h.1
  have h := h.2
  refine v_if_ne 10 rfl (tgt := 22) rfl c1 (fun q13 => ?_) (fun q13 => ?_)
  · have h := h.1 q13
    refine v_aload_n 13 0 rfl rfl rfl ?_
    refine v_gK 14 rfl fl12_13_11.r (al 53 rfl hn) (wk53 dy) (by decide) rfl (r := 55) (wc53_3 dy) ?_
    refine v_iload_n 15 2 rfl rfl rfl ?_
    have c2 := h.1
    have h := h.2
    refine v_ia (N := 6) 16 rfl (al 55 rfl hn) (wk55 dy) (wn55 dy) (by decide) c2 (y := g 55 x2.toNat) rfl ?_
    refine v_rng fun w3 => ?_
    have r4 : i3 (g 55 x2.toNat) := rI w3 (q := x2.toNat) (al 55 rfl hn) (wk55 dy) rfl rfl
    refine v_if_ge 17 rfl (tgt := 33) rfl r4 (fun q12 => ?_) (fun q12 => ?_)
    · have h := h.1 q12
      refine v_iload 20 4 rfl rfl ?_
      have c5 := h.1
      have h := h.2
      refine v_if_eq 21 rfl (tgt := 54) rfl c5 (fun q11 => ?_) (fun q11 => ?_)
      · have h := h.1 q11
        exact h
      · have h := h.2 q11
        refine v_iload_n 22 3 rfl rfl rfl ?_
        have c6 := h.1
        have h := h.2
        refine v_if_lt 23 rfl (tgt := 52) rfl c6 (fun q10 => ?_) (fun q10 => ?_)
        · have h := h.1 q10
          exact h
        · have h := h.2 q10
          refine v_iload_n 24 3 rfl rfl rfl ?_
          refine v_aload_n 25 0 rfl rfl rfl ?_
          refine v_gK 26 rfl fl12_13_11.r (al 53 rfl hn) (wk53 dy) (by decide) rfl (r := 55) (wc53_3 dy) ?_
          refine v_iload_n 27 2 rfl rfl rfl ?_
          refine v_ia (N := 6) 28 rfl (al 55 rfl hn) (wk55 dy) (wn55 dy) (by decide) c2 (y := g 55 x2.toNat) rfl ?_
          refine v_rng fun w7 => ?_
          have r8 : i3 (g 55 x2.toNat) := rI w7 (q := x2.toNat) (al 55 rfl hn) (wk55 dy) rfl rfl
          refine v_icmp_lt 29 rfl (tgt := 54) rfl c6 r8 (fun q9 => ?_) (fun q9 => ?_)
          · have h := h.1 q9
            exact h
          · have h := h.2 q9
            exact h
    · have h := h.2 q12
      refine v_iconst 18 rfl ?_
      exact v_ret (v := some (I_ 3)) 19 rfl (Nat.zero_le _) (Nat.zero_le _) trivial rfl h
  · have h := h.2 q13
    refine v_iconst 11 rfl ?_
    exact v_ret (v := some (I_ 2)) 12 rfl (Nat.zero_le _) (Nat.zero_le _) trivial rfl h
set_option maxHeartbeats 8000000 in
set_option maxRecDepth 4000 in
theorem bX12_parted_52 {d n : Nat} {dy : Nat → Shp} {g : Hp} {P : Pst} {x1 : Int} {x2 : Int} {x3 : Int} {x4 : Int} (hn : 100 ≤ n) (h : P (some (I_ 4)) n (W0 dy) g) : V miX12_parted (d + 1) 52 [(0, .ref 53), (1, I_ x1), (2, I_ x2), (3, I_ x3), (4, I_ x4)] [] n (W0 dy) g 0 0 P := by
  refine v_iconst 30 rfl ?_
  exact v_ret (v := some (I_ 4)) 31 rfl (Nat.zero_le _) (Nat.zero_le _) trivial rfl h
set_option maxHeartbeats 8000000 in
set_option maxRecDepth 4000 in
theorem bX12_parted_54 {d n : Nat} {dy : Nat → Shp} {g : Hp} {P : Pst} {x1 : Int} {x2 : Int} {x3 : Int} {x4 : Int} (hn : 100 ≤ n) (h : Runs miX12_isRod d [.ref 53, I_ x1] n (W0 dy) g (fun v n' S' g' => V miX12_parted (d + 1) 59 [(0, .ref 53), (1, I_ x1), (2, I_ x2), (3, I_ x3), (4, I_ x4)] (v.toList ++ []) n' S' g' 0 0 P)) : V miX12_parted (d + 1) 54 [(0, .ref 53), (1, I_ x1), (2, I_ x2), (3, I_ x3), (4, I_ x4)] [] n (W0 dy) g 0 0 P := by
  refine v_aload_n 32 0 rfl rfl rfl ?_
  refine v_iload_n 33 1 rfl rfl rfl ?_
  refine v_callV (st := []) [I_ x1] 34 rfl lv12_237_parted_11 (al 53 rfl hn) (wk53 dy) (by decide) rfl (Nat.le_refl _) (Nat.le_refl _) ?_
  exact h
set_option maxHeartbeats 8000000 in
set_option maxRecDepth 4000 in
theorem bX12_parted_59 {d n : Nat} {dy : Nat → Shp} {g : Hp} {P : Pst} {x1 : Int} {x2 : Int} {x3 : Int} {x4 : Int} {xs0 : Int} (hn : 100 ≤ n) (h : (i3 xs0) ∧ ((xs0 ≠ 0) → (0 ≤ x2 ∧ x2 < 6) ∧ (((g 55 x2.toNat) < 2) → V miX12_parted (d + 1) 91 [(0, .ref 53), (1, I_ x1), (2, I_ x2), (3, I_ x3), (4, I_ x4)] [] n (W0 dy) (up2 g 53 42 (g 55 x2.toNat)) 0 0 P) ∧ ((2 ≤ (g 55 x2.toNat)) → (((g 55 x2.toNat) ≤ 10) → V miX12_parted (d + 1) 100 [(0, .ref 53), (1, I_ x1), (2, I_ x2), (3, I_ x3), (4, I_ x4), (5, L_ 0), (7, I_ 0)] [] n (W0 dy) (up2 g 53 42 (g 55 x2.toNat)) 0 0 P) ∧ ((10 < (g 55 x2.toNat)) → V miX12_parted (d + 1) 91 [(0, .ref 53), (1, I_ x1), (2, I_ x2), (3, I_ x3), (4, I_ x4)] [] n (W0 dy) (up2 g 53 42 (g 55 x2.toNat)) 0 0 P))) ∧ ((xs0 = 0) → P (some (I_ 5)) n (W0 dy) g)) : V miX12_parted (d + 1) 59 [(0, .ref 53), (1, I_ x1), (2, I_ x2), (3, I_ x3), (4, I_ x4)] [I_ xs0] n (W0 dy) g 0 0 P := by
  have c1 := h.1
  have h := h.2
  refine v_if_ne 35 rfl (tgt := 64) rfl c1 (fun q11 => ?_) (fun q11 => ?_)
  · have h := h.1 q11
    refine v_aload_n 38 0 rfl rfl rfl ?_
    refine v_aload_n 39 0 rfl rfl rfl ?_
    refine v_gK 40 rfl fl12_13_11.r (al 53 rfl hn) (wk53 dy) (by decide) rfl (r := 55) (wc53_3 dy) ?_
    refine v_iload_n 41 2 rfl rfl rfl ?_
    have c2 := h.1
    have h := h.2
    refine v_ia (N := 6) 42 rfl (al 55 rfl hn) (wk55 dy) (wn55 dy) (by decide) c2 (y := g 55 x2.toNat) rfl ?_
    refine v_rng fun w3 => ?_
    have r4 : i3 (g 55 x2.toNat) := rI w3 (q := x2.toNat) (al 55 rfl hn) (wk55 dy) rfl rfl
    refine v_putI 43 rfl fl12_351_11 (al 53 rfl hn) (wk53 dy) (by decide) rfl (wc53_42 dy) r4 ?_
    refine v_aload_n 44 0 rfl rfl rfl ?_
    refine v_gI 45 rfl fl12_351_11.r (al 53 rfl hn) (wk53 dy) (by decide) rfl (wc53_42 dy) (x := g 55 x2.toNat) rfl ?_
    refine v_rng fun w5 => ?_
    have r6 : i3 (g 55 x2.toNat) := rI w5 (q := 42) (al 53 rfl hn) (wk53 dy) rfl rfl
    refine v_iconst 46 rfl ?_
    refine v_icmp_lt 47 rfl (tgt := 91) rfl r6 (by decide) (fun q10 => ?_) (fun q10 => ?_)
    · have h := h.1 q10
      exact h
    · have h := h.2 q10
      refine v_aload_n 48 0 rfl rfl rfl ?_
      refine v_gI 49 rfl fl12_351_11.r (al 53 rfl hn) (wk53 dy) (by decide) rfl (wc53_42 dy) (x := g 55 x2.toNat) rfl ?_
      refine v_rng fun w7 => ?_
      have r8 : i3 (g 55 x2.toNat) := rI w7 (q := 42) (al 53 rfl hn) (wk53 dy) rfl rfl
      refine v_bipush 50 rfl (by decide) ?_
      refine v_icmp_le 51 rfl (tgt := 94) rfl r8 (by decide) (fun q9 => ?_) (fun q9 => ?_)
      · have h := h.1 q9
        refine v_lconst (v := 0) 54 rfl (by decide) ?_
        refine v_lstore 55 [1, 2, 3, 4, 5, 0] rfl (by decide) rfl ?_
        refine v_iconst 56 rfl ?_
        refine v_istore 57 [1, 2, 3, 4, 5, 6, 0] rfl (by decide) rfl ?_
        exact h
      · have h := h.2 q9
        exact h
  · have h := h.2 q11
    refine v_iconst 36 rfl ?_
    exact v_ret (v := some (I_ 5)) 37 rfl (Nat.zero_le _) (Nat.zero_le _) trivial rfl h
set_option maxHeartbeats 8000000 in
set_option maxRecDepth 4000 in
theorem bX12_parted_91 {d n : Nat} {dy : Nat → Shp} {g : Hp} {P : Pst} {x1 : Int} {x2 : Int} {x3 : Int} {x4 : Int} (hn : 100 ≤ n) (h : P (some (I_ 7)) n (W0 dy) g) : V miX12_parted (d + 1) 91 [(0, .ref 53), (1, I_ x1), (2, I_ x2), (3, I_ x3), (4, I_ x4)] [] n (W0 dy) g 0 0 P := by
  refine v_bipush 52 rfl (by decide) ?_
  exact v_ret (v := some (I_ 7)) 53 rfl (Nat.zero_le _) (Nat.zero_le _) trivial rfl h
set_option maxHeartbeats 8000000 in
set_option maxRecDepth 4000 in
theorem bX12_parted_100 {d n : Nat} {dy : Nat → Shp} {g : Hp} {P : Pst} {x1 : Int} {x2 : Int} {x3 : Int} {x4 : Int} {x5 : Int} {x7 : Int} (hn : 100 ≤ n) (h : (i3 x7) ∧ (((g 53 42) ≤ x7) → (0 ≤ x1 ∧ x1 < 60) ∧ (((g 60 x1.toNat) < 0) → Runs miX12_shapes d [.ref 53, I_ x1] n (W0 dy) (up2 g 53 51 0) (fun v n' S' g' => V miX12_parted (d + 1) 197 [(0, .ref 53), (1, I_ x1), (2, I_ x2), (3, I_ x3), (4, I_ x4), (5, L_ x5), (7, I_ x7)] (v.toList ++ []) n' S' g' 0 0 P)) ∧ ((0 ≤ (g 60 x1.toNat)) → P (some (I_ 8)) n (W0 dy) g)) ∧ ((x7 < (g 53 42)) → (0 ≤ (16 * x2) + x7 ∧ (16 * x2) + x7 < 96) ∧ (0 ≤ x7 ∧ x7 < 10) ∧ ((((up2 g 89 x7.toNat (g 56 (((16 * x2) + x7).toNat))) 89 x7.toNat) < 1) → V miX12_parted (d + 1) 154 [(0, .ref 53), (1, I_ x1), (2, I_ x2), (3, I_ x3), (4, I_ x4), (5, L_ x5), (7, I_ x7)] [] n (W0 dy) (up2 g 89 x7.toNat (g 56 (((16 * x2) + x7).toNat))) 0 0 P) ∧ ((1 ≤ ((up2 g 89 x7.toNat (g 56 (((16 * x2) + x7).toNat))) 89 x7.toNat)) → ((((up2 g 89 x7.toNat (g 56 (((16 * x2) + x7).toNat))) 89 x7.toNat) ≤ 1000000) → V miX12_parted (d + 1) 100 [(0, .ref 53), (1, I_ x1), (2, I_ x2), (3, I_ x3), (4, I_ x4), (5, L_ (x5 + ((up2 g 89 x7.toNat (g 56 (((16 * x2) + x7).toNat))) 89 x7.toNat))), (7, I_ (x7 + 1))] [] n (W0 dy) (up2 g 89 x7.toNat (g 56 (((16 * x2) + x7).toNat))) 0 0 P) ∧ ((1000000 < ((up2 g 89 x7.toNat (g 56 (((16 * x2) + x7).toNat))) 89 x7.toNat)) → V miX12_parted (d + 1) 154 [(0, .ref 53), (1, I_ x1), (2, I_ x2), (3, I_ x3), (4, I_ x4), (5, L_ x5), (7, I_ x7)] [] n (W0 dy) (up2 g 89 x7.toNat (g 56 (((16 * x2) + x7).toNat))) 0 0 P)))) : V miX12_parted (d + 1) 100 [(0, .ref 53), (1, I_ x1), (2, I_ x2), (3, I_ x3), (4, I_ x4), (5, L_ x5), (7, I_ x7)] [] n (W0 dy) g 0 0 P := by
  refine v_iload 58 6 rfl rfl ?_
  refine v_aload_n 59 0 rfl rfl rfl ?_
  refine v_gI 60 rfl fl12_351_11.r (al 53 rfl hn) (wk53 dy) (by decide) rfl (wc53_42 dy) (x := g 53 42) rfl ?_
  refine v_rng fun w1 => ?_
  have r2 : i3 (g 53 42) := rI w1 (q := 42) (al 53 rfl hn) (wk53 dy) rfl rfl
  have c3 := h.1
  have h := h.2
  refine v_icmp_ge 61 rfl (tgt := 175) rfl c3 r2 (fun q20 => ?_) (fun q20 => ?_)
  · have h := h.1 q20
    refine v_aload_n 99 0 rfl rfl rfl ?_
    refine v_gK 100 rfl fl12_29_11.r (al 53 rfl hn) (wk53 dy) (by decide) rfl (r := 60) (wc53_9 dy) ?_
    refine v_iload_n 101 1 rfl rfl rfl ?_
    have c4 := h.1
    have h := h.2
    refine v_ia (N := 60) 102 rfl (al 60 rfl hn) (wk60 dy) (wn60 dy) (by decide) c4 (y := g 60 x1.toNat) rfl ?_
    refine v_rng fun w5 => ?_
    have r6 : i3 (g 60 x1.toNat) := rI w5 (q := x1.toNat) (al 60 rfl hn) (wk60 dy) rfl rfl
    refine v_if_lt 103 rfl (tgt := 187) rfl r6 (fun q7 => ?_) (fun q7 => ?_)
    · have h := h.1 q7
      refine v_aload_n 106 0 rfl rfl rfl ?_
      refine v_iconst 107 rfl ?_
      refine v_putZ 108 rfl fl12_348_11 (al 53 rfl hn) (wk53 dy) (by decide) rfl (wc53_51 dy) (Or.inl rfl) ?_
      refine v_aload_n 109 0 rfl rfl rfl ?_
      refine v_iload_n 110 1 rfl rfl rfl ?_
      refine v_callV (st := []) [I_ x1] 111 rfl lv12_354_parted_11 (al 53 rfl hn) (wk53 dy) (by decide) rfl (Nat.le_refl _) (Nat.le_refl _) ?_
      exact h
    · have h := h.2 q7
      refine v_bipush 104 rfl (by decide) ?_
      exact v_ret (v := some (I_ 8)) 105 rfl (Nat.zero_le _) (Nat.zero_le _) trivial rfl h
  · have h := h.2 q20
    refine v_aload_n 62 0 rfl rfl rfl ?_
    refine v_gK 63 rfl fl12_118_11.r (al 53 rfl hn) (wk53 dy) (by decide) rfl (r := 89) (wc53_46 dy) ?_
    refine v_iload 64 6 rfl rfl ?_
    refine v_aload_n 65 0 rfl rfl rfl ?_
    refine v_gK 66 rfl fl12_16_11.r (al 53 rfl hn) (wk53 dy) (by decide) rfl (r := 56) (wc53_4 dy) ?_
    refine v_bipush 67 rfl (by decide) ?_
    refine v_iload_n 68 2 rfl rfl rfl ?_
    refine v_imul 69 rfl ?_
    refine v_iload 70 6 rfl rfl ?_
    refine v_iadd 71 rfl ?_
    have c8 := h.1
    have h := h.2
    refine v_la (N := 96) 72 rfl (al 56 rfl hn) (wk56 dy) (wn56 dy) (by decide) c8 (y := g 56 (((16 * x2) + x7).toNat)) rfl ?_
    refine v_rng fun w9 => ?_
    have r10 : i6 (g 56 (((16 * x2) + x7).toNat)) := rL w9 (q := (((16 * x2) + x7).toNat)) (al 56 rfl hn) (wk56 dy) rfl rfl
    have c11 := h.1
    have h := h.2
    refine v_last (N := 10) 73 rfl (al 89 rfl hn) (wk89 dy) (wn89 dy) (by decide) c11 r10 ?_
    refine v_aload_n 74 0 rfl rfl rfl ?_
    refine v_gK 75 rfl fl12_118_11.r (al 53 rfl hn) (wk53 dy) (by decide) rfl (r := 89) (wc53_46 dy) ?_
    refine v_iload 76 6 rfl rfl ?_
    refine v_la (N := 10) 77 rfl (al 89 rfl hn) (wk89 dy) (wn89 dy) (by decide) c11 (y := (up2 g 89 x7.toNat (g 56 (((16 * x2) + x7).toNat))) 89 x7.toNat) rfl ?_
    refine v_rng fun w12 => ?_
    have r13 : i6 ((up2 g 89 x7.toNat (g 56 (((16 * x2) + x7).toNat))) 89 x7.toNat) := rL w12 (q := x7.toNat) (al 89 rfl hn) (wk89 dy) rfl rfl
    refine v_lconst (v := 1) 78 rfl (by decide) ?_
    refine v_lif_lt 79 rfl rfl (tgt := 154) rfl r13 (by decide) (fun q19 => ?_) (fun q19 => ?_)
    · have h := h.1 q19
      exact h
    · have h := h.2 q19
      refine v_aload_n 81 0 rfl rfl rfl ?_
      refine v_gK 82 rfl fl12_118_11.r (al 53 rfl hn) (wk53 dy) (by decide) rfl (r := 89) (wc53_46 dy) ?_
      refine v_iload 83 6 rfl rfl ?_
      refine v_la (N := 10) 84 rfl (al 89 rfl hn) (wk89 dy) (wn89 dy) (by decide) c11 (y := (up2 g 89 x7.toNat (g 56 (((16 * x2) + x7).toNat))) 89 x7.toNat) rfl ?_
      refine v_rng fun w14 => ?_
      have r15 : i6 ((up2 g 89 x7.toNat (g 56 (((16 * x2) + x7).toNat))) 89 x7.toNat) := rL w14 (q := x7.toNat) (al 89 rfl hn) (wk89 dy) rfl rfl
      refine v_ldc2 (v := 1000000) 85 rfl (tbG_in (List.mem_append_right _ (List.mem_of_getElem? (i := 1347) (by decide +kernel))) rfl) ?_
      refine v_lif_le 86 rfl rfl (tgt := 157) rfl r15 (by decide) (fun q18 => ?_) (fun q18 => ?_)
      · have h := h.1 q18
        refine v_lload 90 5 rfl rfl ?_
        refine v_aload_n 91 0 rfl rfl rfl ?_
        refine v_gK 92 rfl fl12_118_11.r (al 53 rfl hn) (wk53 dy) (by decide) rfl (r := 89) (wc53_46 dy) ?_
        refine v_iload 93 6 rfl rfl ?_
        refine v_la (N := 10) 94 rfl (al 89 rfl hn) (wk89 dy) (wn89 dy) (by decide) c11 (y := (up2 g 89 x7.toNat (g 56 (((16 * x2) + x7).toNat))) 89 x7.toNat) rfl ?_
        refine v_rng fun w16 => ?_
        have r17 : i6 ((up2 g 89 x7.toNat (g 56 (((16 * x2) + x7).toNat))) 89 x7.toNat) := rL w16 (q := x7.toNat) (al 89 rfl hn) (wk89 dy) rfl rfl
        refine v_ladd 95 rfl ?_
        refine v_lstore 96 [1, 2, 3, 4, 5, 0, 6] rfl (by decide) rfl ?_
        refine v_iinc 97 6 [1, 2, 3, 4, 5, 6, 0] rfl rfl (by decide) rfl ?_
        refine v_goto 98 rfl (tgt := 100) rfl ?_
        exact h
      · have h := h.2 q18
        exact h
set_option maxHeartbeats 8000000 in
set_option maxRecDepth 4000 in
theorem bX12_parted_154 {d n : Nat} {dy : Nat → Shp} {g : Hp} {P : Pst} {x1 : Int} {x2 : Int} {x3 : Int} {x4 : Int} {x5 : Int} {x7 : Int} (hn : 100 ≤ n) (h : P (some (I_ 7)) n (W0 dy) g) : V miX12_parted (d + 1) 154 [(0, .ref 53), (1, I_ x1), (2, I_ x2), (3, I_ x3), (4, I_ x4), (5, L_ x5), (7, I_ x7)] [] n (W0 dy) g 0 0 P := by
  refine v_bipush 88 rfl (by decide) ?_
  exact v_ret (v := some (I_ 7)) 89 rfl (Nat.zero_le _) (Nat.zero_le _) trivial rfl h
set_option maxHeartbeats 8000000 in
set_option maxRecDepth 4000 in
theorem bX12_parted_197 {d n : Nat} {dy : Nat → Shp} {g : Hp} {P : Pst} {x1 : Int} {x2 : Int} {x3 : Int} {x4 : Int} {x5 : Int} {x7 : Int} {xs0 : Int} (hn : 100 ≤ n) (h : (i3 xs0) ∧ ((xs0 ≤ 0) → V miX12_parted (d + 1) 210 [(0, .ref 53), (1, I_ x1), (2, I_ x2), (3, I_ x3), (4, I_ x4), (5, L_ x5), (7, I_ xs0), (8, I_ 0)] [] n (W0 dy) g 0 0 P) ∧ ((0 < xs0) → P (some (I_ xs0)) n (W0 dy) g)) : V miX12_parted (d + 1) 197 [(0, .ref 53), (1, I_ x1), (2, I_ x2), (3, I_ x3), (4, I_ x4), (5, L_ x5), (7, I_ x7)] [I_ xs0] n (W0 dy) g 0 0 P := by
  refine v_istore 112 [1, 2, 3, 4, 5, 6, 0] rfl (by decide) rfl ?_
  refine v_iload 113 6 rfl rfl ?_
  have c1 := h.1
  have h := h.2
  refine v_if_le 114 rfl (tgt := 207) rfl c1 (fun q2 => ?_) (fun q2 => ?_)
  · have h := h.1 q2
    refine v_iconst 117 rfl ?_
    refine v_istore 118 [1, 2, 3, 4, 5, 6, 7, 0] rfl (by decide) rfl ?_
    exact h
  · have h := h.2 q2
    refine v_iload 115 6 rfl rfl ?_
    exact v_ret (v := some (I_ xs0)) 116 rfl (Nat.zero_le _) (Nat.zero_le _) trivial rfl h
set_option maxHeartbeats 8000000 in
set_option maxRecDepth 4000 in
theorem bX12_parted_210 {d n : Nat} {dy : Nat → Shp} {g : Hp} {P : Pst} {x1 : Int} {x2 : Int} {x3 : Int} {x4 : Int} {x5 : Int} {x7 : Int} {x8 : Int} (hn : 100 ≤ n) (h : (i3 x8) ∧ (((g 53 41) ≤ x8) → P (some (I_ 0)) n (W0 dy) g) ∧ ((x8 < (g 53 41)) → (((g 53 51) ≠ 0) → V miX12_parted (d + 1) 268 [(0, .ref 53), (1, I_ x1), (2, I_ x2), (3, I_ x3), (4, I_ x4), (5, L_ x5), (7, I_ x7), (8, I_ x8)] [I_ x8, .ref 88] n (W0 dy) g 0 0 P) ∧ (((g 53 51) = 0) → (0 ≤ x8 ∧ x8 < 8) ∧ (i6 x5) ∧ ((x5 < (g 93 x8.toNat)) → V miX12_parted (d + 1) 268 [(0, .ref 53), (1, I_ x1), (2, I_ x2), (3, I_ x3), (4, I_ x4), (5, L_ x5), (7, I_ x7), (8, I_ x8)] [I_ x8, .ref 88] n (W0 dy) g 0 0 P) ∧ (((g 93 x8.toNat) ≤ x5) → (i6 (x5 * (g 92 x8.toNat))) ∧ (g 93 x8.toNat ≠ 0) ∧ (i6 ((x5 * (g 92 x8.toNat)).tmod (g 93 x8.toNat))) ∧ ((((x5 * (g 92 x8.toNat)).tmod (g 93 x8.toNat)) = 0) → (g 93 x8.toNat ≠ 0) ∧ V miX12_parted (d + 1) 292 [(0, .ref 53), (1, I_ x1), (2, I_ x2), (3, I_ x3), (4, I_ x4), (5, L_ x5), (7, I_ x7), (8, I_ x8)] [L_ ((x5 * (g 92 x8.toNat)).tdiv (g 93 x8.toNat)), I_ x8, .ref 88] n (W0 dy) g 0 0 P) ∧ ((((x5 * (g 92 x8.toNat)).tmod (g 93 x8.toNat)) ≠ 0) → V miX12_parted (d + 1) 268 [(0, .ref 53), (1, I_ x1), (2, I_ x2), (3, I_ x3), (4, I_ x4), (5, L_ x5), (7, I_ x7), (8, I_ x8)] [I_ x8, .ref 88] n (W0 dy) g 0 0 P))))) : V miX12_parted (d + 1) 210 [(0, .ref 53), (1, I_ x1), (2, I_ x2), (3, I_ x3), (4, I_ x4), (5, L_ x5), (7, I_ x7), (8, I_ x8)] [] n (W0 dy) g 0 0 P := by
  refine v_iload 119 7 rfl rfl ?_
  refine v_aload_n 120 0 rfl rfl rfl ?_
  refine v_gI 121 rfl fl12_340_11.r (al 53 rfl hn) (wk53 dy) (by decide) rfl (wc53_41 dy) (x := g 53 41) rfl ?_
  refine v_rng fun w1 => ?_
  have r2 : i3 (g 53 41) := rI w1 (q := 41) (al 53 rfl hn) (wk53 dy) rfl rfl
  have c3 := h.1
  have h := h.2
  refine v_icmp_ge 122 rfl (tgt := 299) rfl c3 r2 (fun q25 => ?_) (fun q25 => ?_)
  · have h := h.1 q25
    refine v_iconst 166 rfl ?_
    exact v_ret (v := some (I_ 0)) 167 rfl (Nat.zero_le _) (Nat.zero_le _) trivial rfl h
  · have h := h.2 q25
    refine v_aload_n 123 0 rfl rfl rfl ?_
    refine v_gK 124 rfl fl12_115_11.r (al 53 rfl hn) (wk53 dy) (by decide) rfl (r := 88) (wc53_45 dy) ?_
    refine v_iload 125 7 rfl rfl ?_
    refine v_aload_n 126 0 rfl rfl rfl ?_
    refine v_gI 127 rfl fl12_348_11.r (al 53 rfl hn) (wk53 dy) (by decide) rfl (wc53_51 dy) (x := g 53 51) rfl ?_
    refine v_rng fun w4 => ?_
    have r5 : i3 (g 53 51) := rI w4 (q := 51) (al 53 rfl hn) (wk53 dy) rfl rfl
    refine v_if_ne 128 rfl (tgt := 268) rfl r5 (fun q24 => ?_) (fun q24 => ?_)
    · have h := h.1 q24
      exact h
    · have h := h.2 q24
      refine v_aload_n 129 0 rfl rfl rfl ?_
      refine v_gK 130 rfl fl12_130_11.r (al 53 rfl hn) (wk53 dy) (by decide) rfl (r := 93) (wc53_50 dy) ?_
      refine v_iload 131 7 rfl rfl ?_
      have c6 := h.1
      have h := h.2
      refine v_la (N := 8) 132 rfl (al 93 rfl hn) (wk93 dy) (wn93 dy) (by decide) c6 (y := g 93 x8.toNat) rfl ?_
      refine v_rng fun w7 => ?_
      have r8 : i6 (g 93 x8.toNat) := rL w7 (q := x8.toNat) (al 93 rfl hn) (wk93 dy) rfl rfl
      refine v_lload 133 5 rfl rfl ?_
      have c9 := h.1
      have h := h.2
      refine v_lif_gt 134 rfl rfl (tgt := 268) rfl r8 c9 (fun q23 => ?_) (fun q23 => ?_)
      · have h := h.1 q23
        exact h
      · have h := h.2 q23
        refine v_lload 136 5 rfl rfl ?_
        refine v_aload_n 137 0 rfl rfl rfl ?_
        refine v_gK 138 rfl fl12_127_11.r (al 53 rfl hn) (wk53 dy) (by decide) rfl (r := 92) (wc53_49 dy) ?_
        refine v_iload 139 7 rfl rfl ?_
        refine v_la (N := 8) 140 rfl (al 92 rfl hn) (wk92 dy) (wn92 dy) (by decide) c6 (y := g 92 x8.toNat) rfl ?_
        refine v_rng fun w10 => ?_
        have r11 : i6 (g 92 x8.toNat) := rL w10 (q := x8.toNat) (al 92 rfl hn) (wk92 dy) rfl rfl
        refine v_lmul 141 rfl ?_
        refine v_aload_n 142 0 rfl rfl rfl ?_
        refine v_gK 143 rfl fl12_130_11.r (al 53 rfl hn) (wk53 dy) (by decide) rfl (r := 93) (wc53_50 dy) ?_
        refine v_iload 144 7 rfl rfl ?_
        refine v_la (N := 8) 145 rfl (al 93 rfl hn) (wk93 dy) (wn93 dy) (by decide) c6 (y := g 93 x8.toNat) rfl ?_
        refine v_rng fun w12 => ?_
        have r13 : i6 (g 93 x8.toNat) := rL w12 (q := x8.toNat) (al 93 rfl hn) (wk93 dy) rfl rfl
        have c14 := h.1
        have h := h.2
        have c15 := h.1
        have h := h.2
        refine v_lrem 146 rfl c14 r13 c15 ?_
        refine v_lconst (v := 0) 147 rfl (by decide) ?_
        have c16 := h.1
        have h := h.2
        refine v_lif_eq 148 rfl rfl (tgt := 274) rfl c16 (by decide) (fun q22 => ?_) (fun q22 => ?_)
        · have h := h.1 q22
          refine v_lload 152 5 rfl rfl ?_
          refine v_aload_n 153 0 rfl rfl rfl ?_
          refine v_gK 154 rfl fl12_127_11.r (al 53 rfl hn) (wk53 dy) (by decide) rfl (r := 92) (wc53_49 dy) ?_
          refine v_iload 155 7 rfl rfl ?_
          refine v_la (N := 8) 156 rfl (al 92 rfl hn) (wk92 dy) (wn92 dy) (by decide) c6 (y := g 92 x8.toNat) rfl ?_
          refine v_rng fun w17 => ?_
          have r18 : i6 (g 92 x8.toNat) := rL w17 (q := x8.toNat) (al 92 rfl hn) (wk92 dy) rfl rfl
          refine v_lmul 157 rfl ?_
          refine v_aload_n 158 0 rfl rfl rfl ?_
          refine v_gK 159 rfl fl12_130_11.r (al 53 rfl hn) (wk53 dy) (by decide) rfl (r := 93) (wc53_50 dy) ?_
          refine v_iload 160 7 rfl rfl ?_
          refine v_la (N := 8) 161 rfl (al 93 rfl hn) (wk93 dy) (wn93 dy) (by decide) c6 (y := g 93 x8.toNat) rfl ?_
          refine v_rng fun w19 => ?_
          have r20 : i6 (g 93 x8.toNat) := rL w19 (q := x8.toNat) (al 93 rfl hn) (wk93 dy) rfl rfl
          have c21 := h.1
          have h := h.2
          refine v_ldiv 162 rfl c14 r20 c21 ?_
          exact h
        · have h := h.2 q22
          exact h
set_option maxHeartbeats 8000000 in
set_option maxRecDepth 4000 in
theorem bX12_parted_268 {d n : Nat} {dy : Nat → Shp} {g : Hp} {P : Pst} {x1 : Int} {x2 : Int} {x3 : Int} {x4 : Int} {x5 : Int} {x7 : Int} {x8 : Int} {xs1 : Int} (hn : 100 ≤ n) (h : V miX12_parted (d + 1) 292 [(0, .ref 53), (1, I_ x1), (2, I_ x2), (3, I_ x3), (4, I_ x4), (5, L_ x5), (7, I_ x7), (8, I_ x8)] [L_ ((-1)), I_ xs1, .ref 88] n (W0 dy) g 0 0 P) : V miX12_parted (d + 1) 268 [(0, .ref 53), (1, I_ x1), (2, I_ x2), (3, I_ x3), (4, I_ x4), (5, L_ x5), (7, I_ x7), (8, I_ x8)] [I_ xs1, .ref 88] n (W0 dy) g 0 0 P := by
  refine v_ldc2 (v := (-1)) 150 rfl (tbG_in (List.mem_append_right _ (List.mem_of_getElem? (i := 1334) (by decide +kernel))) rfl) ?_
  refine v_goto 151 rfl (tgt := 292) rfl ?_
  exact h
set_option maxHeartbeats 8000000 in
set_option maxRecDepth 4000 in
theorem bX12_parted_292 {d n : Nat} {dy : Nat → Shp} {g : Hp} {P : Pst} {x1 : Int} {x2 : Int} {x3 : Int} {x4 : Int} {x5 : Int} {x7 : Int} {x8 : Int} {xs1 : Int} {xs2 : Int} (hn : 100 ≤ n) (h : (0 ≤ xs1 ∧ xs1 < 8) ∧ (i6 xs2) ∧ V miX12_parted (d + 1) 210 [(0, .ref 53), (1, I_ x1), (2, I_ x2), (3, I_ x3), (4, I_ x4), (5, L_ x5), (7, I_ x7), (8, I_ (x8 + 1))] [] n (W0 dy) (up2 g 88 xs1.toNat xs2) 0 0 P) : V miX12_parted (d + 1) 292 [(0, .ref 53), (1, I_ x1), (2, I_ x2), (3, I_ x3), (4, I_ x4), (5, L_ x5), (7, I_ x7), (8, I_ x8)] [L_ xs2, I_ xs1, .ref 88] n (W0 dy) g 0 0 P := by
  have c1 := h.1
  have h := h.2
  have c2 := h.1
  have h := h.2
  refine v_last (N := 8) 163 rfl (al 88 rfl hn) (wk88 dy) (wn88 dy) (by decide) c1 c2 ?_
  refine v_iinc 164 7 [1, 2, 3, 4, 5, 6, 7, 0] rfl rfl (by decide) rfl ?_
  refine v_goto 165 rfl (tgt := 210) rfl ?_
  exact h
