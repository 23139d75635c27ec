theorem lv5_46_crossAfter_4 : LkV miX5_crossAfter miX5_next 46 1 4 := ⟨⟨⟨tbG_in (List.mem_append_right _ (List.mem_of_getElem? (i := 519) (by decide +kernel))) rfl, tbG_in (List.mem_append_right _ (List.mem_of_getElem? (i := 3) (by decide +kernel))) rfl, tbG_in (List.mem_append_right _ (List.mem_of_getElem? (i := 516) (by decide +kernel))) rfl⟩, ⟨by decide +kernel, by decide +kernel, by decide +kernel⟩, by decide⟩, tbG_in (List.mem_append_right _ (List.mem_of_getElem? (i := 518) (by decide +kernel))) rfl, RX5, TX5, 3, rfl, tbG_in (List.mem_append_left _ (List.mem_of_getElem? (i := 7) (by decide +kernel))) rfl⟩
set_option maxHeartbeats 8000000 in
set_option maxRecDepth 4000 in
theorem bX5_crossAfter_0 {d n : Nat} {dy : Nat → Shp} {g : Hp} {P : Pst} {x1 : Int} (hn : 100 ≤ n) (h : (0 ≤ x1 ∧ x1 < 8) ∧ Runs miX5_next d [.ref 6, I_ x1] n (W0 dy) g (fun v n' S' g' => V miX5_crossAfter (d + 1) 15 [(0, .ref 6), (1, I_ x1)] (v.toList ++ [.ref 8, I_ (g 7 x1.toNat)]) n' S' g' 0 0 P)) : V miX5_crossAfter (d + 1) 0 [(0, .ref 6), (1, I_ x1)] [] n (W0 dy) g 0 0 P := by
  refine v_aload_n 0 0 rfl rfl rfl ?_
  refine v_gK 1 rfl fl5_9_4.r (al 6 rfl hn) (wk6 dy) (by decide) rfl (r := 7) (wc6_0 dy) ?_
  refine v_iload_n 2 1 rfl rfl rfl ?_
  have c1 := h.1
  have h := h.2
  refine v_ia (N := 8) 3 rfl (al 7 rfl hn) (wk7 dy) (wn7 dy) (by decide) c1 (y := g 7 x1.toNat) rfl ?_
  refine v_rng fun w2 => ?_
  have p3 : i3 (g 7 x1.toNat) := rI w2 (q := x1.toNat) (al 7 rfl hn) (wk7 dy) rfl rfl
  refine v_aload_n 4 0 rfl rfl rfl ?_
  refine v_gK 5 rfl fl5_15_4.r (al 6 rfl hn) (wk6 dy) (by decide) rfl (r := 8) (wc6_1 dy) ?_
  refine v_aload_n 6 0 rfl rfl rfl ?_
  refine v_iload_n 7 1 rfl rfl rfl ?_
  refine v_callV (st := [.ref 8, I_ (g 7 x1.toNat)]) [I_ x1] 8 rfl lv5_46_crossAfter_4 (al 6 rfl hn) (wk6 dy) (by decide) rfl (Nat.le_refl _) (Nat.le_refl _) ?_
  exact h
set_option maxHeartbeats 8000000 in
set_option maxRecDepth 4000 in
theorem bX5_crossAfter_15 {d n : Nat} {dy : Nat → Shp} {g : Hp} {P : Pst} {x1 : Int} {xs0 : Int} {xs2 : Int} (hn : 100 ≤ n) (h : (0 ≤ xs2 ∧ xs2 < 8) ∧ Runs miX5_next d [.ref 6, I_ x1] n (W0 dy) g (fun v n' S' g' => V miX5_crossAfter (d + 1) 26 [(0, .ref 6), (1, I_ x1)] (v.toList ++ [.ref 7, I_ (xs0 * (g 8 xs2.toNat))]) n' S' g' 0 0 P)) : V miX5_crossAfter (d + 1) 15 [(0, .ref 6), (1, I_ x1)] [I_ xs2, .ref 8, I_ xs0] n (W0 dy) g 0 0 P := by
  have c1 := h.1
  have h := h.2
  refine v_ia (N := 8) 9 rfl (al 8 rfl hn) (wk8 dy) (wn8 dy) (by decide) c1 (y := g 8 xs2.toNat) rfl ?_
  refine v_rng fun w2 => ?_
  have p3 : i3 (g 8 xs2.toNat) := rI w2 (q := xs2.toNat) (al 8 rfl hn) (wk8 dy) rfl rfl
  refine v_imul 10 rfl ?_
  refine v_aload_n 11 0 rfl rfl rfl ?_
  refine v_gK 12 rfl fl5_9_4.r (al 6 rfl hn) (wk6 dy) (by decide) rfl (r := 7) (wc6_0 dy) ?_
  refine v_aload_n 13 0 rfl rfl rfl ?_
  refine v_iload_n 14 1 rfl rfl rfl ?_
  refine v_callV (st := [.ref 7, I_ (xs0 * (g 8 xs2.toNat))]) [I_ x1] 15 rfl lv5_46_crossAfter_4 (al 6 rfl hn) (wk6 dy) (by decide) rfl (Nat.le_refl _) (Nat.le_refl _) ?_
  exact h
set_option maxHeartbeats 8000000 in
set_option maxRecDepth 4000 in
theorem bX5_crossAfter_26 {d n : Nat} {dy : Nat → Shp} {g : Hp} {P : Pst} {x1 : Int} {xs0 : Int} {xs2 : Int} (hn : 100 ≤ n) (h : (0 ≤ xs2 ∧ xs2 < 8) ∧ (0 ≤ x1 ∧ x1 < 8) ∧ P (some (I_ (xs0 - ((g 7 xs2.toNat) * (g 8 x1.toNat))))) n (W0 dy) g) : V miX5_crossAfter (d + 1) 26 [(0, .ref 6), (1, I_ x1)] [I_ xs2, .ref 7, I_ xs0] n (W0 dy) g 0 0 P := by
  have c1 := h.1
  have h := h.2
  refine v_ia (N := 8) 16 rfl (al 7 rfl hn) (wk7 dy) (wn7 dy) (by decide) c1 (y := g 7 xs2.toNat) rfl ?_
  refine v_rng fun w2 => ?_
  have p3 : i3 (g 7 xs2.toNat) := rI w2 (q := xs2.toNat) (al 7 rfl hn) (wk7 dy) rfl rfl
  refine v_aload_n 17 0 rfl rfl rfl ?_
  refine v_gK 18 rfl fl5_15_4.r (al 6 rfl hn) (wk6 dy) (by decide) rfl (r := 8) (wc6_1 dy) ?_
  refine v_iload_n 19 1 rfl rfl rfl ?_
  have c4 := h.1
  have h := h.2
  refine v_ia (N := 8) 20 rfl (al 8 rfl hn) (wk8 dy) (wn8 dy) (by decide) c4 (y := g 8 x1.toNat) rfl ?_
  refine v_rng fun w5 => ?_
  have p6 : i3 (g 8 x1.toNat) := rI w5 (q := x1.toNat) (al 8 rfl hn) (wk8 dy) rfl rfl
  refine v_imul 21 rfl ?_
  refine v_isub 22 rfl ?_
  exact v_ret (v := some (I_ (xs0 - ((g 7 xs2.toNat) * (g 8 x1.toNat))))) 23 rfl (Nat.zero_le _) (Nat.zero_le _) trivial rfl h
theorem wX5_crossAfter {d n : Nat} {dy : Nat → Shp} {g : Hp} {P : Pst} {x1 : Int} (hn : 100 ≤ n) (h : (0 ≤ x1 ∧ x1 < 8) ∧ Runs miX5_next d [.ref 6, I_ x1] n (W0 dy) g (fun v n' S' g' => V miX5_crossAfter (d + 1) 15 [(0, .ref 6), (1, I_ x1)] (v.toList ++ [.ref 8, I_ (g 7 x1.toNat)]) n' S' g' 0 0 P)) : Runs miX5_crossAfter (d + 1) [.ref 6, I_ x1] n (W0 dy) g P := Runs.of rfl rfl deX5_crossAfter (Nat.le_of_ble_eq_true rfl) (bX5_crossAfter_0 hn h)
theorem lv5_70_signedTwiceArea_4 : LkV miX5_signedTwiceArea miX5_crossAfter 70 1 4 := ⟨⟨⟨tbG_in (List.mem_append_right _ (List.mem_of_getElem? (i := 554) (by decide +kernel))) rfl, tbG_in (List.mem_append_right _ (List.mem_of_getElem? (i := 3) (by decide +kernel))) rfl, tbG_in (List.mem_append_right _ (List.mem_of_getElem? (i := 551) (by decide +kernel))) rfl⟩, ⟨by decide +kernel, by decide +kernel, by decide +kernel⟩, by decide⟩, tbG_in (List.mem_append_right _ (List.mem_of_getElem? (i := 553) (by decide +kernel))) rfl, RX5, TX5, 3, rfl, tbG_in (List.mem_append_left _ (List.mem_of_getElem? (i := 12) (by decide +kernel))) rfl⟩
set_option maxHeartbeats 8000000 in
set_option maxRecDepth 4000 in
theorem bX5_signedTwiceArea_0 {d n : Nat} {dy : Nat → Shp} {g : Hp} {P : Pst}  (hn : 100 ≤ n) (h : V miX5_signedTwiceArea (d + 1) 4 [(0, .ref 6), (1, I_ 0), (2, I_ 0)] [] n (W0 dy) g 0 0 P) : V miX5_signedTwiceArea (d + 1) 0 [(0, .ref 6)] [] n (W0 dy) g 0 0 P := by
  refine v_iconst 0 rfl ?_
  refine v_istore_n 1 [1, 0] rfl rfl (by decide) rfl ?_
  refine v_iconst 2 rfl ?_
  refine v_istore_n 3 [1, 2, 0] rfl rfl (by decide) rfl ?_
  exact h
set_option maxHeartbeats 8000000 in
set_option maxRecDepth 4000 in
theorem bX5_signedTwiceArea_4 {d n : Nat} {dy : Nat → Shp} {g : Hp} {P : Pst} {x1 : Int} {x2 : Int} (hn : 100 ≤ n) (h : (i3 x2) ∧ (((g 6 2) ≤ x2) → P (some (I_ x1)) n (W0 dy) g) ∧ ((x2 < (g 6 2)) → Runs miX5_crossAfter d [.ref 6, I_ x2] n (W0 dy) g (fun v n' S' g' => V miX5_signedTwiceArea (d + 1) 18 [(0, .ref 6), (1, I_ x1), (2, I_ x2)] (v.toList ++ [I_ x1]) n' S' g' 0 0 P))) : V miX5_signedTwiceArea (d + 1) 4 [(0, .ref 6), (1, I_ x1), (2, I_ x2)] [] n (W0 dy) g 0 0 P := by
  refine v_iload_n 4 2 rfl rfl rfl ?_
  refine v_aload_n 5 0 rfl rfl rfl ?_
  refine v_gI 6 rfl fl5_18_4.r (al 6 rfl hn) (wk6 dy) (by decide) rfl (wc6_2 dy) (x := g 6 2) rfl ?_
  refine v_rng fun w1 => ?_
  have p2 : i3 (g 6 2) := rI w1 (q := 2) (al 6 rfl hn) (wk6 dy) rfl rfl
  have c3 := h.1
  have h := h.2
  refine v_icmp_ge 7 rfl (tgt := 26) rfl c3 p2 (fun q4 => ?_) (fun q4 => ?_)
  · have h := h.1 q4
    refine v_iload_n 16 1 rfl rfl rfl ?_
    exact v_ret (v := some (I_ x1)) 17 rfl (Nat.zero_le _) (Nat.zero_le _) trivial rfl h
  · have h := h.2 q4
    refine v_iload_n 8 1 rfl rfl rfl ?_
    refine v_aload_n 9 0 rfl rfl rfl ?_
    refine v_iload_n 10 2 rfl rfl rfl ?_
    refine v_callV (st := [I_ x1]) [I_ x2] 11 rfl lv5_70_signedTwiceArea_4 (al 6 rfl hn) (wk6 dy) (by decide) rfl (Nat.le_refl _) (Nat.le_refl _) ?_
    exact h
set_option maxHeartbeats 8000000 in
set_option maxRecDepth 4000 in
theorem bX5_signedTwiceArea_18 {d n : Nat} {dy : Nat → Shp} {g : Hp} {P : Pst} {x1 : Int} {x2 : Int} {xs0 : Int} {xs1 : Int} (hn : 100 ≤ n) (h : V miX5_signedTwiceArea (d + 1) 4 [(0, .ref 6), (1, I_ (xs0 + xs1)), (2, I_ (x2 + 1))] [] n (W0 dy) g 0 0 P) : V miX5_signedTwiceArea (d + 1) 18 [(0, .ref 6), (1, I_ x1), (2, I_ x2)] [I_ xs1, I_ xs0] n (W0 dy) g 0 0 P := by
  refine v_iadd 12 rfl ?_
  refine v_istore_n 13 [1, 0, 2] rfl rfl (by decide) rfl ?_
  refine v_iinc 14 2 [1, 2, 0] rfl rfl (by decide) rfl ?_
  refine v_goto 15 rfl (tgt := 4) rfl ?_
  exact h
theorem wX5_signedTwiceArea {d n : Nat} {dy : Nat → Shp} {g : Hp} {P : Pst}  (hn : 100 ≤ n) (h : V miX5_signedTwiceArea (d + 1) 4 [(0, .ref 6), (1, I_ 0), (2, I_ 0)] [] n (W0 dy) g 0 0 P) : Runs miX5_signedTwiceArea (d + 1) [.ref 6] n (W0 dy) g P := Runs.of rfl rfl deX5_signedTwiceArea (Nat.le_of_ble_eq_true rfl) (bX5_signedTwiceArea_0 hn h)
theorem lm5_77_twiceArea : LkM miX5_twiceArea 77 Lib.Math.abs.name Lib.Math.abs.code 1 .int := ⟨tbG_in (List.mem_append_right _ (List.mem_of_getElem? (i := 555) (by decide +kernel))) rfl, tbG_in (List.mem_append_right _ (List.mem_of_getElem? (i := 556) (by decide +kernel))) rfl, tbG_in (List.mem_append_right _ (List.mem_of_getElem? (i := 15) (by decide +kernel))) rfl, tbG_in (List.mem_append_right _ (List.mem_of_getElem? (i := 557) (by decide +kernel))) rfl⟩
theorem lv5_73_twiceArea_4 : LkV miX5_twiceArea miX5_signedTwiceArea 73 0 4 := ⟨⟨⟨tbG_in (List.mem_append_right _ (List.mem_of_getElem? (i := 550) (by decide +kernel))) rfl, tbG_in (List.mem_append_right _ (List.mem_of_getElem? (i := 3) (by decide +kernel))) rfl, tbG_in (List.mem_append_right _ (List.mem_of_getElem? (i := 547) (by decide +kernel))) rfl⟩, ⟨by decide +kernel, by decide +kernel, by decide +kernel⟩, by decide⟩, tbG_in (List.mem_append_right _ (List.mem_of_getElem? (i := 549) (by decide +kernel))) rfl, RX5, TX5, 3, rfl, tbG_in (List.mem_append_left _ (List.mem_of_getElem? (i := 11) (by decide +kernel))) rfl⟩
set_option maxHeartbeats 8000000 in
set_option maxRecDepth 4000 in
theorem bX5_twiceArea_0 {d n : Nat} {dy : Nat → Shp} {g : Hp} {P : Pst}  (hn : 100 ≤ n) (h : Runs miX5_signedTwiceArea d [.ref 6] n (W0 dy) g (fun v n' S' g' => V miX5_twiceArea (d + 1) 4 [(0, .ref 6)] (v.toList ++ []) n' S' g' 0 0 P)) : V miX5_twiceArea (d + 1) 0 [(0, .ref 6)] [] n (W0 dy) g 0 0 P := by
  refine v_aload_n 0 0 rfl rfl rfl ?_
  refine v_callV (st := []) [] 1 rfl lv5_73_twiceArea_4 (al 6 rfl hn) (wk6 dy) (by decide) rfl (Nat.le_refl _) (Nat.le_refl _) ?_
  exact h
set_option maxHeartbeats 8000000 in
set_option maxRecDepth 4000 in
theorem bX5_twiceArea_4 {d n : Nat} {dy : Nat → Shp} {g : Hp} {P : Pst} {xs0 : Int} (hn : 100 ≤ n) (h : (i3 xs0) ∧ P (some (I_ (ab xs0))) n (W0 dy) g) : V miX5_twiceArea (d + 1) 4 [(0, .ref 6)] [I_ xs0] n (W0 dy) g 0 0 P := by
  have c1 := h.1
  have h := h.2
  refine v_mabs (st := []) 2 rfl lm5_77_twiceArea rfl (Nat.zero_le _) (Nat.zero_le _) c1 ?_
  exact v_ret (v := some (I_ (ab xs0))) 3 rfl (Nat.zero_le _) (Nat.zero_le _) trivial rfl h
theorem wX5_twiceArea {d n : Nat} {dy : Nat → Shp} {g : Hp} {P : Pst}  (hn : 100 ≤ n) (h : Runs miX5_signedTwiceArea d [.ref 6] n (W0 dy) g (fun v n' S' g' => V miX5_twiceArea (d + 1) 4 [(0, .ref 6)] (v.toList ++ []) n' S' g' 0 0 P)) : Runs miX5_twiceArea (d + 1) [.ref 6] n (W0 dy) g P := Runs.of rfl rfl deX5_twiceArea (Nat.le_of_ble_eq_true rfl) (bX5_twiceArea_0 hn h)
theorem lv5_73_middleSum_4 : LkV miX5_middleSum miX5_signedTwiceArea 73 0 4 := ⟨⟨⟨tbG_in (List.mem_append_right _ (List.mem_of_getElem? (i := 550) (by decide +kernel))) rfl, tbG_in (List.mem_append_right _ (List.mem_of_getElem? (i := 3) (by decide +kernel))) rfl, tbG_in (List.mem_append_right _ (List.mem_of_getElem? (i := 547) (by decide +kernel))) rfl⟩, ⟨by decide +kernel, by decide +kernel, by decide +kernel⟩, by decide⟩, tbG_in (List.mem_append_right _ (List.mem_of_getElem? (i := 549) (by decide +kernel))) rfl, RX5, TX5, 3, rfl, tbG_in (List.mem_append_left _ (List.mem_of_getElem? (i := 11) (by decide +kernel))) rfl⟩
theorem lv5_46_middleSum_4 : LkV miX5_middleSum miX5_next 46 1 4 := ⟨⟨⟨tbG_in (List.mem_append_right _ (List.mem_of_getElem? (i := 519) (by decide +kernel))) rfl, tbG_in (List.mem_append_right _ (List.mem_of_getElem? (i := 3) (by decide +kernel))) rfl, tbG_in (List.mem_append_right _ (List.mem_of_getElem? (i := 516) (by decide +kernel))) rfl⟩, ⟨by decide +kernel, by decide +kernel, by decide +kernel⟩, by decide⟩, tbG_in (List.mem_append_right _ (List.mem_of_getElem? (i := 518) (by decide +kernel))) rfl, RX5, TX5, 3, rfl, tbG_in (List.mem_append_left _ (List.mem_of_getElem? (i := 7) (by decide +kernel))) rfl⟩
theorem lv5_70_middleSum_4 : LkV miX5_middleSum miX5_crossAfter 70 1 4 := ⟨⟨⟨tbG_in (List.mem_append_right _ (List.mem_of_getElem? (i := 554) (by decide +kernel))) rfl, tbG_in (List.mem_append_right _ (List.mem_of_getElem? (i := 3) (by decide +kernel))) rfl, tbG_in (List.mem_append_right _ (List.mem_of_getElem? (i := 551) (by decide +kernel))) rfl⟩, ⟨by decide +kernel, by decide +kernel, by decide +kernel⟩, by decide⟩, tbG_in (List.mem_append_right _ (List.mem_of_getElem? (i := 553) (by decide +kernel))) rfl, RX5, TX5, 3, rfl, tbG_in (List.mem_append_left _ (List.mem_of_getElem? (i := 12) (by decide +kernel))) rfl⟩
set_option maxHeartbeats 8000000 in
set_option maxRecDepth 4000 in
theorem bX5_middleSum_0 {d n : Nat} {dy : Nat → Shp} {g : Hp} {P : Pst} {x1 : Int} (hn : 100 ≤ n) (h : V miX5_middleSum (d + 1) 5 [(0, .ref 6), (1, I_ x1), (2, L_ 0), (4, I_ 0)] [] n (W0 dy) g 0 0 P) : V miX5_middleSum (d + 1) 0 [(0, .ref 6), (1, I_ x1)] [] n (W0 dy) g 0 0 P := by
  refine v_lconst (v := 0) 0 rfl (by decide) ?_
  refine v_lstore_n 1 [1, 2, 0] rfl rfl (by decide) rfl ?_
  refine v_iconst 2 rfl ?_
  refine v_istore 3 [1, 2, 3, 0] rfl (by decide) rfl ?_
  exact h
set_option maxHeartbeats 8000000 in
set_option maxRecDepth 4000 in
theorem bX5_middleSum_5 {d n : Nat} {dy : Nat → Shp} {g : Hp} {P : Pst} {x1 : Int} {x2 : Int} {x4 : Int} (hn : 100 ≤ n) (h : (i3 x4) ∧ (((g 6 2) ≤ x4) → Runs miX5_signedTwiceArea d [.ref 6] n (W0 dy) g (fun v n' S' g' => V miX5_middleSum (d + 1) 85 [(0, .ref 6), (1, I_ x1), (2, L_ x2), (4, I_ x4)] (v.toList ++ []) n' S' g' 0 0 P)) ∧ ((x4 < (g 6 2)) → (i3 x1) ∧ ((x1 = 0) → (0 ≤ x4 ∧ x4 < 8) ∧ Runs miX5_next d [.ref 6, I_ x4] n (W0 dy) g (fun v n' S' g' => V miX5_middleSum (d + 1) 57 [(0, .ref 6), (1, I_ x1), (2, L_ x2), (4, I_ x4)] (v.toList ++ [.ref 8, I_ (g 8 x4.toNat)]) n' S' g' 0 0 P)) ∧ ((x1 ≠ 0) → (0 ≤ x4 ∧ x4 < 8) ∧ Runs miX5_next d [.ref 6, I_ x4] n (W0 dy) g (fun v n' S' g' => V miX5_middleSum (d + 1) 35 [(0, .ref 6), (1, I_ x1), (2, L_ x2), (4, I_ x4)] (v.toList ++ [.ref 7, I_ (g 7 x4.toNat)]) n' S' g' 0 0 P)))) : V miX5_middleSum (d + 1) 5 [(0, .ref 6), (1, I_ x1), (2, L_ x2), (4, I_ x4)] [] n (W0 dy) g 0 0 P := by
  refine v_iload 4 3 rfl rfl ?_
  refine v_aload_n 5 0 rfl rfl rfl ?_
  refine v_gI 6 rfl fl5_18_4.r (al 6 rfl hn) (wk6 dy) (by decide) rfl (wc6_2 dy) (x := g 6 2) rfl ?_
  refine v_rng fun w1 => ?_
  have p2 : i3 (g 6 2) := rI w1 (q := 2) (al 6 rfl hn) (wk6 dy) rfl rfl
  have c3 := h.1
  have h := h.2
  refine v_icmp_ge 7 rfl (tgt := 81) rfl c3 p2 (fun q4 => ?_) (fun q4 => ?_)
  · have h := h.1 q4
    refine v_aload_n 46 0 rfl rfl rfl ?_
    refine v_callV (st := []) [] 47 rfl lv5_73_middleSum_4 (al 6 rfl hn) (wk6 dy) (by decide) rfl (Nat.le_refl _) (Nat.le_refl _) ?_
    exact h
  · have h := h.2 q4
    refine v_iload_n 8 1 rfl rfl rfl ?_
    have c5 := h.1
    have h := h.2
    refine v_if_eq 9 rfl (tgt := 40) rfl c5 (fun q6 => ?_) (fun q6 => ?_)
    · have h := h.1 q6
      refine v_aload_n 22 0 rfl rfl rfl ?_
      refine v_gK 23 rfl fl5_15_4.r (al 6 rfl hn) (wk6 dy) (by decide) rfl (r := 8) (wc6_1 dy) ?_
      refine v_iload 24 3 rfl rfl ?_
      have c7 := h.1
      have h := h.2
      refine v_ia (N := 8) 25 rfl (al 8 rfl hn) (wk8 dy) (wn8 dy) (by decide) c7 (y := g 8 x4.toNat) rfl ?_
      refine v_rng fun w8 => ?_
      have p9 : i3 (g 8 x4.toNat) := rI w8 (q := x4.toNat) (al 8 rfl hn) (wk8 dy) rfl rfl
      refine v_aload_n 26 0 rfl rfl rfl ?_
      refine v_gK 27 rfl fl5_15_4.r (al 6 rfl hn) (wk6 dy) (by decide) rfl (r := 8) (wc6_1 dy) ?_
      refine v_aload_n 28 0 rfl rfl rfl ?_
      refine v_iload 29 3 rfl rfl ?_
      refine v_callV (st := [.ref 8, I_ (g 8 x4.toNat)]) [I_ x4] 30 rfl lv5_46_middleSum_4 (al 6 rfl hn) (wk6 dy) (by decide) rfl (Nat.le_refl _) (Nat.le_refl _) ?_
      exact h
    · have h := h.2 q6
      refine v_aload_n 10 0 rfl rfl rfl ?_
      refine v_gK 11 rfl fl5_9_4.r (al 6 rfl hn) (wk6 dy) (by decide) rfl (r := 7) (wc6_0 dy) ?_
      refine v_iload 12 3 rfl rfl ?_
      have c10 := h.1
      have h := h.2
      refine v_ia (N := 8) 13 rfl (al 7 rfl hn) (wk7 dy) (wn7 dy) (by decide) c10 (y := g 7 x4.toNat) rfl ?_
      refine v_rng fun w11 => ?_
      have p12 : i3 (g 7 x4.toNat) := rI w11 (q := x4.toNat) (al 7 rfl hn) (wk7 dy) rfl rfl
      refine v_aload_n 14 0 rfl rfl rfl ?_
      refine v_gK 15 rfl fl5_9_4.r (al 6 rfl hn) (wk6 dy) (by decide) rfl (r := 7) (wc6_0 dy) ?_
      refine v_aload_n 16 0 rfl rfl rfl ?_
      refine v_iload 17 3 rfl rfl ?_
      refine v_callV (st := [.ref 7, I_ (g 7 x4.toNat)]) [I_ x4] 18 rfl lv5_46_middleSum_4 (al 6 rfl hn) (wk6 dy) (by decide) rfl (Nat.le_refl _) (Nat.le_refl _) ?_
      exact h
set_option maxHeartbeats 8000000 in
set_option maxRecDepth 4000 in
theorem bX5_middleSum_35 {d n : Nat} {dy : Nat → Shp} {g : Hp} {P : Pst} {x1 : Int} {x2 : Int} {x4 : Int} {xs0 : Int} {xs2 : Int} (hn : 100 ≤ n) (h : (0 ≤ xs2 ∧ xs2 < 8) ∧ (i3 (xs0 + (g 7 xs2.toNat))) ∧ Runs miX5_crossAfter d [.ref 6, I_ x4] n (W0 dy) g (fun v n' S' g' => V miX5_middleSum (d + 1) 71 [(0, .ref 6), (1, I_ x1), (2, L_ x2), (4, I_ x4), (5, I_ (xs0 + (g 7 xs2.toNat)))] (v.toList ++ [L_ (xs0 + (g 7 xs2.toNat)), L_ x2]) n' S' g' 0 0 P)) : V miX5_middleSum (d + 1) 35 [(0, .ref 6), (1, I_ x1), (2, L_ x2), (4, I_ x4)] [I_ xs2, .ref 7, I_ xs0] n (W0 dy) g 0 0 P := by
  have c1 := h.1
  have h := h.2
  refine v_ia (N := 8) 19 rfl (al 7 rfl hn) (wk7 dy) (wn7 dy) (by decide) c1 (y := g 7 xs2.toNat) rfl ?_
  refine v_rng fun w2 => ?_
  have p3 : i3 (g 7 xs2.toNat) := rI w2 (q := xs2.toNat) (al 7 rfl hn) (wk7 dy) rfl rfl
  refine v_iadd 20 rfl ?_
  refine v_goto 21 rfl (tgt := 59) rfl ?_
  refine v_istore 33 [1, 2, 3, 4, 0] rfl (by decide) rfl ?_
  refine v_lload_n 34 2 rfl rfl rfl ?_
  refine v_iload 35 4 rfl rfl ?_
  have c4 := h.1
  have h := h.2
  refine v_i2l 36 rfl c4 ?_
  refine v_aload_n 37 0 rfl rfl rfl ?_
  refine v_iload 38 3 rfl rfl ?_
  refine v_callV (st := [L_ (xs0 + (g 7 xs2.toNat)), L_ x2]) [I_ x4] 39 rfl lv5_70_middleSum_4 (al 6 rfl hn) (wk6 dy) (by decide) rfl (Nat.le_refl _) (Nat.le_refl _) ?_
  exact h
set_option maxHeartbeats 8000000 in
set_option maxRecDepth 4000 in
theorem bX5_middleSum_57 {d n : Nat} {dy : Nat → Shp} {g : Hp} {P : Pst} {x1 : Int} {x2 : Int} {x4 : Int} {xs0 : Int} {xs2 : Int} (hn : 100 ≤ n) (h : (0 ≤ xs2 ∧ xs2 < 8) ∧ (i3 (xs0 + (g 8 xs2.toNat))) ∧ Runs miX5_crossAfter d [.ref 6, I_ x4] n (W0 dy) g (fun v n' S' g' => V miX5_middleSum (d + 1) 71 [(0, .ref 6), (1, I_ x1), (2, L_ x2), (4, I_ x4), (5, I_ (xs0 + (g 8 xs2.toNat)))] (v.toList ++ [L_ (xs0 + (g 8 xs2.toNat)), L_ x2]) n' S' g' 0 0 P)) : V miX5_middleSum (d + 1) 57 [(0, .ref 6), (1, I_ x1), (2, L_ x2), (4, I_ x4)] [I_ xs2, .ref 8, I_ xs0] n (W0 dy) g 0 0 P := by
  have c1 := h.1
  have h := h.2
  refine v_ia (N := 8) 31 rfl (al 8 rfl hn) (wk8 dy) (wn8 dy) (by decide) c1 (y := g 8 xs2.toNat) rfl ?_
  refine v_rng fun w2 => ?_
  have p3 : i3 (g 8 xs2.toNat) := rI w2 (q := xs2.toNat) (al 8 rfl hn) (wk8 dy) rfl rfl
  refine v_iadd 32 rfl ?_
  refine v_istore 33 [1, 2, 3, 4, 0] rfl (by decide) rfl ?_
  refine v_lload_n 34 2 rfl rfl rfl ?_
  refine v_iload 35 4 rfl rfl ?_
  have c4 := h.1
  have h := h.2
  refine v_i2l 36 rfl c4 ?_
  refine v_aload_n 37 0 rfl rfl rfl ?_
  refine v_iload 38 3 rfl rfl ?_
  refine v_callV (st := [L_ (xs0 + (g 8 xs2.toNat)), L_ x2]) [I_ x4] 39 rfl lv5_70_middleSum_4 (al 6 rfl hn) (wk6 dy) (by decide) rfl (Nat.le_refl _) (Nat.le_refl _) ?_
  exact h
set_option maxHeartbeats 8000000 in
set_option maxRecDepth 4000 in
theorem bX5_middleSum_71 {d n : Nat} {dy : Nat → Shp} {g : Hp} {P : Pst} {x1 : Int} {x2 : Int} {x4 : Int} {x5 : Int} {xs0 : Int} {xs1 : Int} {xs2 : Int} (hn : 100 ≤ n) (h : (i3 xs2) ∧ V miX5_middleSum (d + 1) 5 [(0, .ref 6), (1, I_ x1), (2, L_ (xs0 + (xs1 * xs2))), (4, I_ (x4 + 1))] [] n (W0 dy) g 0 0 P) : V miX5_middleSum (d + 1) 71 [(0, .ref 6), (1, I_ x1), (2, L_ x2), (4, I_ x4), (5, I_ x5)] [I_ xs2, L_ xs1, L_ xs0] n (W0 dy) g 0 0 P := by
  have c1 := h.1
  have h := h.2
  refine v_i2l 40 rfl c1 ?_
  refine v_lmul 41 rfl ?_
  refine v_ladd 42 rfl ?_
  refine v_lstore_n 43 [1, 2, 0, 3, 4] rfl rfl (by decide) rfl ?_
  refine v_iinc 44 3 [1, 2, 3, 0, 4] rfl rfl (by decide) rfl ?_
  refine v_goto 45 rfl (tgt := 5) rfl ?_
  refine v_loc [0, 1, 2, 3] rfl ?_
  exact h
set_option maxHeartbeats 8000000 in
set_option maxRecDepth 4000 in
theorem bX5_middleSum_85 {d n : Nat} {dy : Nat → Shp} {g : Hp} {P : Pst} {x1 : Int} {x2 : Int} {x4 : Int} {xs0 : Int} (hn : 100 ≤ n) (h : (i3 xs0) ∧ ((0 ≤ xs0) → P (some (L_ x2)) n (W0 dy) g) ∧ ((xs0 < 0) → P (some (L_ (-x2))) n (W0 dy) g)) : V miX5_middleSum (d + 1) 85 [(0, .ref 6), (1, I_ x1), (2, L_ x2), (4, I_ x4)] [I_ xs0] n (W0 dy) g 0 0 P := by
  have c1 := h.1
  have h := h.2
  refine v_if_ge 48 rfl (tgt := 93) rfl c1 (fun q2 => ?_) (fun q2 => ?_)
  · have h := h.1 q2
    refine v_lload_n 52 2 rfl rfl rfl ?_
    exact v_ret (v := some (L_ x2)) 53 rfl (Nat.zero_le _) (Nat.zero_le _) trivial rfl h
  · have h := h.2 q2
    refine v_lload_n 49 2 rfl rfl rfl ?_
    refine v_lneg 50 rfl ?_
    refine v_goto 51 rfl (tgt := 94) rfl ?_
    exact v_ret (v := some (L_ (-x2))) 53 rfl (Nat.zero_le _) (Nat.zero_le _) trivial rfl h
theorem wX5_middleSum {d n : Nat} {dy : Nat → Shp} {g : Hp} {P : Pst} {x1 : Int} (hn : 100 ≤ n) (h : V miX5_middleSum (d + 1) 5 [(0, .ref 6), (1, I_ x1), (2, L_ 0), (4, I_ 0)] [] n (W0 dy) g 0 0 P) : Runs miX5_middleSum (d + 1) [.ref 6, I_ x1] n (W0 dy) g P := Runs.of rfl rfl deX5_middleSum (Nat.le_of_ble_eq_true rfl) (bX5_middleSum_0 hn h)
theorem fl6_22_5 : FL RX6 22 5 15 false (.object "MobileMaker$Part") := ⟨RX6, TX6, 16, "MobileMaker$Rod", rfl, rfl, by decide, kf5, tbG_in (List.mem_append_right _ (List.mem_of_getElem? (i := 463) (by decide +kernel))) rfl, Or.inl rfl, rfl, by decide +kernel, ⟨tyX6, tyX6_ok⟩, nmX6, fun h => by cases h⟩
theorem fl6_18_5 : FL RX6 18 5 14 false (.object "MobileMaker$Part") := ⟨RX6, TX6, 16, "MobileMaker$Rod", rfl, rfl, by decide, kf5, tbG_in (List.mem_append_right _ (List.mem_of_getElem? (i := 458) (by decide +kernel))) rfl, Or.inl rfl, rfl, by decide +kernel, ⟨tyX6, tyX6_ok⟩, nmX6, fun h => by cases h⟩
set_option maxHeartbeats 8000000 in
set_option maxRecDepth 4000 in
theorem bX6_side_0 {d n : Nat} {dy : Nat → Shp} {g : Hp} {P : Pst} {r0 : Nat} {x1 : Int} (hn : 100 ≤ n) (h : (i3 x1) ∧ ((x1 ≠ 0) → (Ob n (W0 dy) r0 5) ∧ P (some (.ref ((g r0 15).toNat))) n (W0 dy) g) ∧ ((x1 = 0) → (Ob n (W0 dy) r0 5) ∧ P (some (.ref ((g r0 14).toNat))) n (W0 dy) g)) : V miX6_side d 0 [(0, .ref r0), (1, I_ x1)] [] n (W0 dy) g 0 0 P := by
  refine v_iload_n 0 1 rfl rfl rfl ?_
  have c1 := h.1
  have h := h.2
  refine v_if_ne 1 rfl (tgt := 11) rfl c1 (fun q2 => ?_) (fun q2 => ?_)
  · have h := h.1 q2
    refine v_aload_n 5 0 rfl rfl rfl ?_
    have c3 := h.1
    have h := h.2
    refine v_gR 6 rfl fl6_22_5.r c3.1 c3.2.1 (by decide) rfl (c3.2.2 15) (x := g r0 15) rfl ?_
    exact v_ret (v := some (.ref ((g r0 15).toNat))) 7 rfl (Nat.zero_le _) (Nat.zero_le _) trivial rfl h
  · have h := h.2 q2
    refine v_aload_n 2 0 rfl rfl rfl ?_
    have c4 := h.1
    have h := h.2
    refine v_gR 3 rfl fl6_18_5.r c4.1 c4.2.1 (by decide) rfl (c4.2.2 14) (x := g r0 14) rfl ?_
    refine v_goto 4 rfl (tgt := 15) rfl ?_
    exact v_ret (v := some (.ref ((g r0 14).toNat))) 7 rfl (Nat.zero_le _) (Nat.zero_le _) trivial rfl h
theorem wX6_side {d n : Nat} {dy : Nat → Shp} {g : Hp} {P : Pst} {r0 : Nat} {x1 : Int} (hn : 100 ≤ n) (h : (i3 x1) ∧ ((x1 ≠ 0) → (Ob n (W0 dy) r0 5) ∧ P (some (.ref ((g r0 15).toNat))) n (W0 dy) g) ∧ ((x1 = 0) → (Ob n (W0 dy) r0 5) ∧ P (some (.ref ((g r0 14).toNat))) n (W0 dy) g)) : Runs miX6_side d [.ref r0, I_ x1] n (W0 dy) g P := Runs.of rfl rfl deX6_side (Nat.le_of_ble_eq_true rfl) (bX6_side_0 hn h)
theorem fl6_31_3 : FL RX6 31 3 3 false (.object "MobileMaker$Rod") := ⟨RX4, TX4, 14, "MobileMaker$Part", rfl, rfl, by decide, kf3, tbG_in (List.mem_append_right _ (List.mem_of_getElem? (i := 368) (by decide +kernel))) rfl, Or.inl rfl, rfl, by decide +kernel, ⟨tyX4, tyX4_ok⟩, nmX4, fun h => by cases h⟩
theorem fl6_31_5 : FL RX6 31 5 3 false (.object "MobileMaker$Rod") := ⟨RX6, TX6, 16, "MobileMaker$Part", rfl, rfl, by decide, kf5, tbG_in (List.mem_append_right _ (List.mem_of_getElem? (i := 368) (by decide +kernel))) rfl, Or.inl rfl, rfl, by decide +kernel, ⟨tyX6, tyX6_ok⟩, nmX6, fun h => by cases h⟩
theorem fl6_31_9 : FL RX6 31 9 3 false (.object "MobileMaker$Rod") := ⟨RX10, TX10, 10, "MobileMaker$Part", rfl, rfl, by decide, kf9, tbG_in (List.mem_append_right _ (List.mem_of_getElem? (i := 368) (by decide +kernel))) rfl, Or.inl rfl, rfl, by decide +kernel, ⟨tyX10, tyX10_ok⟩, nmX10, fun h => by cases h⟩
theorem fl6_35_3 : FL RX6 35 3 4 false .int := ⟨RX4, TX4, 14, "MobileMaker$Part", rfl, rfl, by decide, kf3, tbG_in (List.mem_append_right _ (List.mem_of_getElem? (i := 375) (by decide +kernel))) rfl, Or.inl rfl, rfl, by decide +kernel, ⟨tyX4, tyX4_ok⟩, nmX4, fun h => by cases h⟩
theorem fl6_35_5 : FL RX6 35 5 4 false .int := ⟨RX6, TX6, 16, "MobileMaker$Part", rfl, rfl, by decide, kf5, tbG_in (List.mem_append_right _ (List.mem_of_getElem? (i := 375) (by decide +kernel))) rfl, Or.inl rfl, rfl, by decide +kernel, ⟨tyX6, tyX6_ok⟩, nmX6, fun h => by cases h⟩
theorem fl6_35_9 : FL RX6 35 9 4 false .int := ⟨RX10, TX10, 10, "MobileMaker$Part", rfl, rfl, by decide, kf9, tbG_in (List.mem_append_right _ (List.mem_of_getElem? (i := 375) (by decide +kernel))) rfl, Or.inl rfl, rfl, by decide +kernel, ⟨tyX10, tyX10_ok⟩, nmX10, fun h => by cases h⟩
set_option maxHeartbeats 8000000 in
set_option maxRecDepth 4000 in
theorem bX6_bear_0 {d n : Nat} {dy : Nat → Shp} {g : Hp} {P : Pst} {r0 : Nat} {x1 : Int} {r2 : Nat} (hn : 100 ≤ n) (h : (i3 x1) ∧ ((x1 ≠ 0) → (Ob n (W0 dy) r0 5) ∧ ((r2 = 0) → P none n (W0 dy) (up2 g r0 15 (((r2 : Nat) : Int)))) ∧ ((0 < r2) → (Pt n (W0 dy) r2) ∧ P none n (W0 dy) (up2 (up2 (up2 g r0 15 (((r2 : Nat) : Int))) r2 3 (((r0 : Nat) : Int))) r2 4 x1))) ∧ ((x1 = 0) → (Ob n (W0 dy) r0 5) ∧ ((r2 = 0) → P none n (W0 dy) (up2 g r0 14 (((r2 : Nat) : Int)))) ∧ ((0 < r2) → (Pt n (W0 dy) r2) ∧ P none n (W0 dy) (up2 (up2 (up2 g r0 14 (((r2 : Nat) : Int))) r2 3 (((r0 : Nat) : Int))) r2 4 x1)))) : V miX6_bear d 0 [(0, .ref r0), (1, I_ x1), (2, .ref r2)] [] n (W0 dy) g 0 0 P := by
  refine v_iload_n 0 1 rfl rfl rfl ?_
  have c1 := h.1
  have h := h.2
  refine v_if_ne 1 rfl (tgt := 12) rfl c1 (fun q2 => ?_) (fun q2 => ?_)
  · have h := h.1 q2
    refine v_aload_n 6 0 rfl rfl rfl ?_
    refine v_aload_n 7 2 rfl rfl rfl ?_
    have c3 := h.1
    have h := h.2
    refine v_putR 8 rfl fl6_22_5 c3.1 c3.2.1 (by decide) rfl (c3.2.2 15) ?_
    refine v_aload_n 9 2 rfl rfl rfl ?_
    refine v_ifnull 10 rfl (tgt := 31) rfl (fun q4 => ?_) (fun q4 => ?_)
    · have h := h.1 q4
      exact v_ret (v := none) 17 rfl (Nat.zero_le _) (Nat.zero_le _) trivial rfl h
    · have h := h.2 q4
      refine v_aload_n 11 2 rfl rfl rfl ?_
      refine v_aload_n 12 0 rfl rfl rfl ?_
      have c5 := h.1
      have h := h.2
      refine v_qR 13 rfl ⟨fl6_31_3, fl6_31_5, fl6_31_9⟩ c5 ⟨rfl, rfl, rfl⟩ ?_
      refine v_aload_n 14 2 rfl rfl rfl ?_
      refine v_iload_n 15 1 rfl rfl rfl ?_
      refine v_qI 16 rfl ⟨fl6_35_3, fl6_35_5, fl6_35_9⟩ c5 ⟨rfl, rfl, rfl⟩ c1 ?_
      exact v_ret (v := none) 17 rfl (Nat.zero_le _) (Nat.zero_le _) trivial rfl h
  · have h := h.2 q2
    refine v_aload_n 2 0 rfl rfl rfl ?_
    refine v_aload_n 3 2 rfl rfl rfl ?_
    have c6 := h.1
    have h := h.2
    refine v_putR 4 rfl fl6_18_5 c6.1 c6.2.1 (by decide) rfl (c6.2.2 14) ?_
    refine v_goto 5 rfl (tgt := 17) rfl ?_
    refine v_aload_n 9 2 rfl rfl rfl ?_
    refine v_ifnull 10 rfl (tgt := 31) rfl (fun q7 => ?_) (fun q7 => ?_)
    · have h := h.1 q7
      exact v_ret (v := none) 17 rfl (Nat.zero_le _) (Nat.zero_le _) trivial rfl h
    · have h := h.2 q7
      refine v_aload_n 11 2 rfl rfl rfl ?_
      refine v_aload_n 12 0 rfl rfl rfl ?_
      have c8 := h.1
      have h := h.2
      refine v_qR 13 rfl ⟨fl6_31_3, fl6_31_5, fl6_31_9⟩ c8 ⟨rfl, rfl, rfl⟩ ?_
      refine v_aload_n 14 2 rfl rfl rfl ?_
      refine v_iload_n 15 1 rfl rfl rfl ?_
      refine v_qI 16 rfl ⟨fl6_35_3, fl6_35_5, fl6_35_9⟩ c8 ⟨rfl, rfl, rfl⟩ c1 ?_
      exact v_ret (v := none) 17 rfl (Nat.zero_le _) (Nat.zero_le _) trivial rfl h
theorem wX6_bear {d n : Nat} {dy : Nat → Shp} {g : Hp} {P : Pst} {r0 : Nat} {x1 : Int} {r2 : Nat} (hn : 100 ≤ n) (h : (i3 x1) ∧ ((x1 ≠ 0) → (Ob n (W0 dy) r0 5) ∧ ((r2 = 0) → P none n (W0 dy) (up2 g r0 15 (((r2 : Nat) : Int)))) ∧ ((0 < r2) → (Pt n (W0 dy) r2) ∧ P none n (W0 dy) (up2 (up2 (up2 g r0 15 (((r2 : Nat) : Int))) r2 3 (((r0 : Nat) : Int))) r2 4 x1))) ∧ ((x1 = 0) → (Ob n (W0 dy) r0 5) ∧ ((r2 = 0) → P none n (W0 dy) (up2 g r0 14 (((r2 : Nat) : Int)))) ∧ ((0 < r2) → (Pt n (W0 dy) r2) ∧ P none n (W0 dy) (up2 (up2 (up2 g r0 14 (((r2 : Nat) : Int))) r2 3 (((r0 : Nat) : Int))) r2 4 x1)))) : Runs miX6_bear d [.ref r0, I_ x1, .ref r2] n (W0 dy) g P := Runs.of rfl rfl deX6_bear (Nat.le_of_ble_eq_true rfl) (bX6_bear_0 hn h)
theorem fl6_15_5 : FL RX6 15 5 13 false .int := ⟨RX6, TX6, 16, "MobileMaker$Rod", rfl, rfl, by decide, kf5, tbG_in (List.mem_append_right _ (List.mem_of_getElem? (i := 455) (by decide +kernel))) rfl, Or.inl rfl, rfl, by decide +kernel, ⟨tyX6, tyX6_ok⟩, nmX6, fun h => by cases h⟩
theorem fl6_25_5 : FL RX6 25 5 10 true .int := ⟨RX6, TX6, 16, "MobileMaker$Rod", rfl, rfl, by decide, kf5, tbG_in (List.mem_append_right _ (List.mem_of_getElem? (i := 446) (by decide +kernel))) rfl, Or.inl rfl, rfl, by decide +kernel, ⟨tyX6, tyX6_ok⟩, nmX6, fun _ => rfl⟩
theorem fl6_9_5 : FL RX6 9 5 12 false .int := ⟨RX6, TX6, 16, "MobileMaker$Rod", rfl, rfl, by decide, kf5, tbG_in (List.mem_append_right _ (List.mem_of_getElem? (i := 452) (by decide +kernel))) rfl, Or.inl rfl, rfl, by decide +kernel, ⟨tyX6, tyX6_ok⟩, nmX6, fun h => by cases h⟩
set_option maxHeartbeats 8000000 in
set_option maxRecDepth 4000 in
theorem bX6_hasWholeArms_0 {d n : Nat} {dy : Nat → Shp} {g : Hp} {P : Pst} {r0 : Nat} (hn : 100 ≤ n) (h : (Ob n (W0 dy) r0 5) ∧ (((g r0 13) ≤ 0) → P (some (I_ 0)) n (W0 dy) g) ∧ ((0 < (g r0 13)) → (i6 ((g r0 10) * (g r0 12))) ∧ (g r0 13 ≠ 0) ∧ (i6 (((g r0 10) * (g r0 12)).tmod (g r0 13))) ∧ (((((g r0 10) * (g r0 12)).tmod (g r0 13)) ≠ 0) → P (some (I_ 0)) n (W0 dy) g) ∧ (((((g r0 10) * (g r0 12)).tmod (g r0 13)) = 0) → P (some (I_ 1)) n (W0 dy) g))) : V miX6_hasWholeArms d 0 [(0, .ref r0)] [] n (W0 dy) g 0 0 P := by
  refine v_aload_n 0 0 rfl rfl rfl ?_
  have c1 := h.1
  have h := h.2
  refine v_gI 1 rfl fl6_15_5.r c1.1 c1.2.1 (by decide) rfl (c1.2.2 13) (x := g r0 13) rfl ?_
  refine v_rng fun w2 => ?_
  have p3 : i3 (g r0 13) := rI w2 (q := 13) c1.1 c1.2.1 rfl rfl
  refine v_if_le 2 rfl (tgt := 33) rfl p3 (fun q4 => ?_) (fun q4 => ?_)
  · have h := h.1 q4
    refine v_iconst 19 rfl ?_
    exact v_ret (v := some (I_ 0)) 20 rfl (Nat.zero_le _) (Nat.zero_le _) (Or.inl rfl) rfl h
  · have h := h.2 q4
    refine v_aload_n 3 0 rfl rfl rfl ?_
    refine v_gI 4 rfl fl6_25_5.r c1.1 c1.2.1 (by decide) rfl (c1.2.2 10) (x := g r0 10) rfl ?_
    refine v_rng fun w5 => ?_
    have p6 : i3 (g r0 10) := rI w5 (q := 10) c1.1 c1.2.1 rfl rfl
    refine v_i2l 5 rfl p6 ?_
    refine v_aload_n 6 0 rfl rfl rfl ?_
    refine v_gI 7 rfl fl6_9_5.r c1.1 c1.2.1 (by decide) rfl (c1.2.2 12) (x := g r0 12) rfl ?_
    refine v_rng fun w7 => ?_
    have p8 : i3 (g r0 12) := rI w7 (q := 12) c1.1 c1.2.1 rfl rfl
    refine v_i2l 8 rfl p8 ?_
    refine v_lmul 9 rfl ?_
    refine v_aload_n 10 0 rfl rfl rfl ?_
    refine v_gI 11 rfl fl6_15_5.r c1.1 c1.2.1 (by decide) rfl (c1.2.2 13) (x := g r0 13) rfl ?_
    refine v_rng fun w9 => ?_
    have p10 : i3 (g r0 13) := rI w9 (q := 13) c1.1 c1.2.1 rfl rfl
    refine v_i2l 12 rfl p10 ?_
    have c11 := h.1
    have h := h.2
    have c12 := h.1
    have h := h.2
    refine v_lrem 13 rfl c11 (i36 p10) c12 ?_
    refine v_lconst (v := 0) 14 rfl (by decide) ?_
    have c13 := h.1
    have h := h.2
    refine v_lif_ne 15 rfl rfl (tgt := 33) rfl c13 (by decide) (fun q14 => ?_) (fun q14 => ?_)
    · have h := h.1 q14
      refine v_iconst 19 rfl ?_
      exact v_ret (v := some (I_ 0)) 20 rfl (Nat.zero_le _) (Nat.zero_le _) (Or.inl rfl) rfl h
    · have h := h.2 q14
      refine v_iconst 17 rfl ?_
      refine v_goto 18 rfl (tgt := 34) rfl ?_
      exact v_ret (v := some (I_ 1)) 20 rfl (Nat.zero_le _) (Nat.zero_le _) (Or.inr rfl) rfl h
theorem wX6_hasWholeArms {d n : Nat} {dy : Nat → Shp} {g : Hp} {P : Pst} {r0 : Nat} (hn : 100 ≤ n) (h : (Ob n (W0 dy) r0 5) ∧ (((g r0 13) ≤ 0) → P (some (I_ 0)) n (W0 dy) g) ∧ ((0 < (g r0 13)) → (i6 ((g r0 10) * (g r0 12))) ∧ (g r0 13 ≠ 0) ∧ (i6 (((g r0 10) * (g r0 12)).tmod (g r0 13))) ∧ (((((g r0 10) * (g r0 12)).tmod (g r0 13)) ≠ 0) → P (some (I_ 0)) n (W0 dy) g) ∧ (((((g r0 10) * (g r0 12)).tmod (g r0 13)) = 0) → P (some (I_ 1)) n (W0 dy) g))) : Runs miX6_hasWholeArms d [.ref r0] n (W0 dy) g P := Runs.of rfl rfl deX6_hasWholeArms (Nat.le_of_ble_eq_true rfl) (bX6_hasWholeArms_0 hn h)
set_option maxHeartbeats 8000000 in
set_option maxRecDepth 4000 in
theorem bX6_arm_0 {d n : Nat} {dy : Nat → Shp} {g : Hp} {P : Pst} {r0 : Nat} {x1 : Int} (hn : 100 ≤ n) (h : (Ob n (W0 dy) r0 5) ∧ (((g r0 13) ≤ 0) → (i3 x1) ∧ ((x1 ≠ 0) → P (some (I_ ((g r0 10) - 0))) n (W0 dy) g) ∧ ((x1 = 0) → P (some (I_ 0)) n (W0 dy) g)) ∧ ((0 < (g r0 13)) → (i6 ((g r0 10) * (g r0 12))) ∧ (g r0 13 ≠ 0) ∧ ∀ y17 : Int, y17 = ((g r0 10) * (g r0 12)).tdiv (g r0 13) → (i3 x1) ∧ ((x1 ≠ 0) → P (some (I_ ((g r0 10) - y17))) n (W0 dy) g) ∧ ((x1 = 0) → P (some (I_ y17)) n (W0 dy) g))) : V miX6_arm d 0 [(0, .ref r0), (1, I_ x1)] [] n (W0 dy) g 0 0 P := by
  refine v_aload_n 0 0 rfl rfl rfl ?_
  have c1 := h.1
  have h := h.2
  refine v_gI 1 rfl fl6_15_5.r c1.1 c1.2.1 (by decide) rfl (c1.2.2 13) (x := g r0 13) rfl ?_
  refine v_rng fun w2 => ?_
  have p3 : i3 (g r0 13) := rI w2 (q := 13) c1.1 c1.2.1 rfl rfl
  refine v_if_le 2 rfl (tgt := 28) rfl p3 (fun q4 => ?_) (fun q4 => ?_)
  · have h := h.1 q4
    refine v_iconst 16 rfl ?_
    refine v_istore_n 17 [1, 2, 0] rfl rfl (by decide) rfl ?_
    refine v_iload_n 18 1 rfl rfl rfl ?_
    have c5 := h.1
    have h := h.2
    refine v_if_ne 19 rfl (tgt := 38) rfl c5 (fun q6 => ?_) (fun q6 => ?_)
    · have h := h.1 q6
      refine v_aload_n 22 0 rfl rfl rfl ?_
      refine v_gI 23 rfl fl6_25_5.r c1.1 c1.2.1 (by decide) rfl (c1.2.2 10) (x := g r0 10) rfl ?_
      refine v_rng fun w7 => ?_
      have p8 : i3 (g r0 10) := rI w7 (q := 10) c1.1 c1.2.1 rfl rfl
      refine v_iload_n 24 2 rfl rfl rfl ?_
      refine v_isub 25 rfl ?_
      exact v_ret (v := some (I_ ((g r0 10) - 0))) 26 rfl (Nat.zero_le _) (Nat.zero_le _) trivial rfl h
    · have h := h.2 q6
      refine v_iload_n 20 2 rfl rfl rfl ?_
      refine v_goto 21 rfl (tgt := 44) rfl ?_
      exact v_ret (v := some (I_ 0)) 26 rfl (Nat.zero_le _) (Nat.zero_le _) trivial rfl h
  · have h := h.2 q4
    refine v_aload_n 3 0 rfl rfl rfl ?_
    refine v_gI 4 rfl fl6_25_5.r c1.1 c1.2.1 (by decide) rfl (c1.2.2 10) (x := g r0 10) rfl ?_
    refine v_rng fun w9 => ?_
    have p10 : i3 (g r0 10) := rI w9 (q := 10) c1.1 c1.2.1 rfl rfl
    refine v_i2l 5 rfl p10 ?_
    refine v_aload_n 6 0 rfl rfl rfl ?_
    refine v_gI 7 rfl fl6_9_5.r c1.1 c1.2.1 (by decide) rfl (c1.2.2 12) (x := g r0 12) rfl ?_
    refine v_rng fun w11 => ?_
    have p12 : i3 (g r0 12) := rI w11 (q := 12) c1.1 c1.2.1 rfl rfl
    refine v_i2l 8 rfl p12 ?_
    refine v_lmul 9 rfl ?_
    refine v_aload_n 10 0 rfl rfl rfl ?_
    refine v_gI 11 rfl fl6_15_5.r c1.1 c1.2.1 (by decide) rfl (c1.2.2 13) (x := g r0 13) rfl ?_
    refine v_rng fun w13 => ?_
    have p14 : i3 (g r0 13) := rI w13 (q := 13) c1.1 c1.2.1 rfl rfl
    refine v_i2l 12 rfl p14 ?_
    have c15 := h.1
    have h := h.2
    have c16 := h.1
    have h := h.2
    refine v_ldiv 13 rfl c15 (i36 p14) c16 ?_
    refine v_l2i 14 rfl ?_
    refine v_goto 15 rfl (tgt := 29) rfl ?_
    refine v_nmI (fun y17 ey17 => ?_)
    have h := h y17 ey17
    refine v_istore_n 17 [1, 2, 0] rfl rfl (by decide) rfl ?_
    refine v_iload_n 18 1 rfl rfl rfl ?_
    have c18 := h.1
    have h := h.2
    refine v_if_ne 19 rfl (tgt := 38) rfl c18 (fun q19 => ?_) (fun q19 => ?_)
    · have h := h.1 q19
      refine v_aload_n 22 0 rfl rfl rfl ?_
      refine v_gI 23 rfl fl6_25_5.r c1.1 c1.2.1 (by decide) rfl (c1.2.2 10) (x := g r0 10) rfl ?_
      refine v_rng fun w20 => ?_
      have p21 : i3 (g r0 10) := rI w20 (q := 10) c1.1 c1.2.1 rfl rfl
      refine v_iload_n 24 2 rfl rfl rfl ?_
      refine v_isub 25 rfl ?_
      exact v_ret (v := some (I_ ((g r0 10) - y17))) 26 rfl (Nat.zero_le _) (Nat.zero_le _) trivial rfl h
    · have h := h.2 q19
      refine v_iload_n 20 2 rfl rfl rfl ?_
      refine v_goto 21 rfl (tgt := 44) rfl ?_
      exact v_ret (v := some (I_ y17)) 26 rfl (Nat.zero_le _) (Nat.zero_le _) trivial rfl h
theorem wX6_arm {d n : Nat} {dy : Nat → Shp} {g : Hp} {P : Pst} {r0 : Nat} {x1 : Int} (hn : 100 ≤ n) (h : (Ob n (W0 dy) r0 5) ∧ (((g r0 13) ≤ 0) → (i3 x1) ∧ ((x1 ≠ 0) → P (some (I_ ((g r0 10) - 0))) n (W0 dy) g) ∧ ((x1 = 0) → P (some (I_ 0)) n (W0 dy) g)) ∧ ((0 < (g r0 13)) → (i6 ((g r0 10) * (g r0 12))) ∧ (g r0 13 ≠ 0) ∧ ∀ y17 : Int, y17 = ((g r0 10) * (g r0 12)).tdiv (g r0 13) → (i3 x1) ∧ ((x1 ≠ 0) → P (some (I_ ((g r0 10) - y17))) n (W0 dy) g) ∧ ((x1 = 0) → P (some (I_ y17)) n (W0 dy) g))) : Runs miX6_arm d [.ref r0, I_ x1] n (W0 dy) g P := Runs.of rfl rfl deX6_arm (Nat.le_of_ble_eq_true rfl) (bX6_arm_0 hn h)
set_option maxHeartbeats 8000000 in
set_option maxRecDepth 4000 in
theorem bX6_isTiedAt_0 {d n : Nat} {dy : Nat → Shp} {g : Hp} {P : Pst} {r0 : Nat} {x1 : Int} {x2 : Int} (hn : 100 ≤ n) (h : (Ob n (W0 dy) r0 5) ∧ (i3 x2) ∧ (i3 x1) ∧ (i6 ((g r0 12) * x2)) ∧ (i6 (x1 * (g r0 13))) ∧ ((((g r0 12) * x2) ≠ (x1 * (g r0 13))) → P (some (I_ 0)) n (W0 dy) g) ∧ ((((g r0 12) * x2) = (x1 * (g r0 13))) → P (some (I_ 1)) n (W0 dy) g)) : V miX6_isTiedAt d 0 [(0, .ref r0), (1, I_ x1), (2, I_ x2)] [] n (W0 dy) g 0 0 P := by
  refine v_aload_n 0 0 rfl rfl rfl ?_
  have c1 := h.1
  have h := h.2
  refine v_gI 1 rfl fl6_9_5.r c1.1 c1.2.1 (by decide) rfl (c1.2.2 12) (x := g r0 12) rfl ?_
  refine v_rng fun w2 => ?_
  have p3 : i3 (g r0 12) := rI w2 (q := 12) c1.1 c1.2.1 rfl rfl
  refine v_i2l 2 rfl p3 ?_
  refine v_iload_n 3 2 rfl rfl rfl ?_
  have c4 := h.1
  have h := h.2
  refine v_i2l 4 rfl c4 ?_
  refine v_lmul 5 rfl ?_
  refine v_iload_n 6 1 rfl rfl rfl ?_
  have c5 := h.1
  have h := h.2
  refine v_i2l 7 rfl c5 ?_
  refine v_aload_n 8 0 rfl rfl rfl ?_
  refine v_gI 9 rfl fl6_15_5.r c1.1 c1.2.1 (by decide) rfl (c1.2.2 13) (x := g r0 13) rfl ?_
  refine v_rng fun w6 => ?_
  have p7 : i3 (g r0 13) := rI w6 (q := 13) c1.1 c1.2.1 rfl rfl
  refine v_i2l 10 rfl p7 ?_
  refine v_lmul 11 rfl ?_
  have c8 := h.1
  have h := h.2
  have c9 := h.1
  have h := h.2
  refine v_lif_ne 12 rfl rfl (tgt := 24) rfl c8 c9 (fun q10 => ?_) (fun q10 => ?_)
  · have h := h.1 q10
    refine v_iconst 16 rfl ?_
    exact v_ret (v := some (I_ 0)) 17 rfl (Nat.zero_le _) (Nat.zero_le _) (Or.inl rfl) rfl h
  · have h := h.2 q10
    refine v_iconst 14 rfl ?_
    refine v_goto 15 rfl (tgt := 25) rfl ?_
    exact v_ret (v := some (I_ 1)) 17 rfl (Nat.zero_le _) (Nat.zero_le _) (Or.inr rfl) rfl h
theorem wX6_isTiedAt {d n : Nat} {dy : Nat → Shp} {g : Hp} {P : Pst} {r0 : Nat} {x1 : Int} {x2 : Int} (hn : 100 ≤ n) (h : (Ob n (W0 dy) r0 5) ∧ (i3 x2) ∧ (i3 x1) ∧ (i6 ((g r0 12) * x2)) ∧ (i6 (x1 * (g r0 13))) ∧ ((((g r0 12) * x2) ≠ (x1 * (g r0 13))) → P (some (I_ 0)) n (W0 dy) g) ∧ ((((g r0 12) * x2) = (x1 * (g r0 13))) → P (some (I_ 1)) n (W0 dy) g)) : Runs miX6_isTiedAt d [.ref r0, I_ x1, I_ x2] n (W0 dy) g P := Runs.of rfl rfl deX6_isTiedAt (Nat.le_of_ble_eq_true rfl) (bX6_isTiedAt_0 hn h)
theorem fl6_38_3 : FL RX6 38 3 8 false .long := ⟨RX4, TX4, 14, "MobileMaker$Part", rfl, rfl, by decide, kf3, tbG_in (List.mem_append_right _ (List.mem_of_getElem? (i := 400) (by decide +kernel))) rfl, Or.inl rfl, rfl, by decide +kernel, ⟨tyX4, tyX4_ok⟩, nmX4, fun h => by cases h⟩
theorem fl6_38_5 : FL RX6 38 5 8 false .long := ⟨RX6, TX6, 16, "MobileMaker$Part", rfl, rfl, by decide, kf5, tbG_in (List.mem_append_right _ (List.mem_of_getElem? (i := 400) (by decide +kernel))) rfl, Or.inl rfl, rfl, by decide +kernel, ⟨tyX6, tyX6_ok⟩, nmX6, fun h => by cases h⟩
theorem fl6_38_9 : FL RX6 38 9 8 false .long := ⟨RX10, TX10, 10, "MobileMaker$Part", rfl, rfl, by decide, kf9, tbG_in (List.mem_append_right _ (List.mem_of_getElem? (i := 400) (by decide +kernel))) rfl, Or.inl rfl, rfl, by decide +kernel, ⟨tyX10, tyX10_ok⟩, nmX10, fun h => by cases h⟩
set_option maxHeartbeats 8000000 in
set_option maxRecDepth 4000 in
theorem bX6_loadOf_0 {d n : Nat} {dy : Nat → Shp} {g : Hp} {P : Pst} {r0 : Nat} (hn : 100 ≤ n) (h : ((0 < r0) → (Pt n (W0 dy) r0) ∧ P (some (L_ (g r0 8))) n (W0 dy) g) ∧ ((r0 = 0) → P (some (L_ 0)) n (W0 dy) g)) : V miX6_loadOf d 0 [(0, .ref r0)] [] n (W0 dy) g 0 0 P := by
  refine v_aload_n 0 0 rfl rfl rfl ?_
  refine v_ifnonnull 1 rfl (tgt := 8) rfl (fun q1 => ?_) (fun q1 => ?_)
  · have h := h.1 q1
    refine v_aload_n 4 0 rfl rfl rfl ?_
    have c2 := h.1
    have h := h.2
    refine v_pL 5 rfl ⟨fl6_38_3.r, fl6_38_5.r, fl6_38_9.r⟩ c2 ⟨rfl, rfl, rfl⟩ (x := g r0 8) rfl ?_
    refine v_rng fun w3 => ?_
    have p4 : i6 (g r0 8) := rPL w3 (q := 8) c2 rfl rfl rfl rfl
    exact v_ret (v := some (L_ (g r0 8))) 6 rfl (Nat.zero_le _) (Nat.zero_le _) trivial rfl h
  · have h := h.2 q1
    refine v_lconst (v := 0) 2 rfl (by decide) ?_
    refine v_goto 3 rfl (tgt := 12) rfl ?_
    exact v_ret (v := some (L_ 0)) 6 rfl (Nat.zero_le _) (Nat.zero_le _) trivial rfl h
theorem wX6_loadOf {d n : Nat} {dy : Nat → Shp} {g : Hp} {P : Pst} {r0 : Nat} (hn : 100 ≤ n) (h : ((0 < r0) → (Pt n (W0 dy) r0) ∧ P (some (L_ (g r0 8))) n (W0 dy) g) ∧ ((r0 = 0) → P (some (L_ 0)) n (W0 dy) g)) : Runs miX6_loadOf d [.ref r0] n (W0 dy) g P := Runs.of rfl rfl deX6_loadOf (Nat.le_of_ble_eq_true rfl) (bX6_loadOf_0 hn h)
theorem fl6_42_3 : FL RX6 42 3 9 false .long := ⟨RX4, TX4, 14, "MobileMaker$Part", rfl, rfl, by decide, kf3, tbG_in (List.mem_append_right _ (List.mem_of_getElem? (i := 406) (by decide +kernel))) rfl, Or.inl rfl, rfl, by decide +kernel, ⟨tyX4, tyX4_ok⟩, nmX4, fun h => by cases h⟩
theorem fl6_42_5 : FL RX6 42 5 9 false .long := ⟨RX6, TX6, 16, "MobileMaker$Part", rfl, rfl, by decide, kf5, tbG_in (List.mem_append_right _ (List.mem_of_getElem? (i := 406) (by decide +kernel))) rfl, Or.inl rfl, rfl, by decide +kernel, ⟨tyX6, tyX6_ok⟩, nmX6, fun h => by cases h⟩
theorem fl6_42_9 : FL RX6 42 9 9 false .long := ⟨RX10, TX10, 10, "MobileMaker$Part", rfl, rfl, by decide, kf9, tbG_in (List.mem_append_right _ (List.mem_of_getElem? (i := 406) (by decide +kernel))) rfl, Or.inl rfl, rfl, by decide +kernel, ⟨tyX10, tyX10_ok⟩, nmX10, fun h => by cases h⟩
set_option maxHeartbeats 8000000 in
set_option maxRecDepth 4000 in
theorem bX6_bareLossOf_0 {d n : Nat} {dy : Nat → Shp} {g : Hp} {P : Pst} {r0 : Nat} (hn : 100 ≤ n) (h : ((0 < r0) → (Pt n (W0 dy) r0) ∧ P (some (L_ (g r0 9))) n (W0 dy) g) ∧ ((r0 = 0) → P (some (L_ 0)) n (W0 dy) g)) : V miX6_bareLossOf d 0 [(0, .ref r0)] [] n (W0 dy) g 0 0 P := by
  refine v_aload_n 0 0 rfl rfl rfl ?_
  refine v_ifnonnull 1 rfl (tgt := 8) rfl (fun q1 => ?_) (fun q1 => ?_)
  · have h := h.1 q1
    refine v_aload_n 4 0 rfl rfl rfl ?_
    have c2 := h.1
    have h := h.2
    refine v_pL 5 rfl ⟨fl6_42_3.r, fl6_42_5.r, fl6_42_9.r⟩ c2 ⟨rfl, rfl, rfl⟩ (x := g r0 9) rfl ?_
    refine v_rng fun w3 => ?_
    have p4 : i6 (g r0 9) := rPL w3 (q := 9) c2 rfl rfl rfl rfl
    exact v_ret (v := some (L_ (g r0 9))) 6 rfl (Nat.zero_le _) (Nat.zero_le _) trivial rfl h
  · have h := h.2 q1
    refine v_lconst (v := 0) 2 rfl (by decide) ?_
    refine v_goto 3 rfl (tgt := 12) rfl ?_
    exact v_ret (v := some (L_ 0)) 6 rfl (Nat.zero_le _) (Nat.zero_le _) trivial rfl h
theorem wX6_bareLossOf {d n : Nat} {dy : Nat → Shp} {g : Hp} {P : Pst} {r0 : Nat} (hn : 100 ≤ n) (h : ((0 < r0) → (Pt n (W0 dy) r0) ∧ P (some (L_ (g r0 9))) n (W0 dy) g) ∧ ((r0 = 0) → P (some (L_ 0)) n (W0 dy) g)) : Runs miX6_bareLossOf d [.ref r0] n (W0 dy) g P := Runs.of rfl rfl deX6_bareLossOf (Nat.le_of_ble_eq_true rfl) (bX6_bareLossOf_0 hn h)
theorem fl6_51_5 : FR RX6 51 5 2 := ⟨RX6, TX6, 16, "MobileMaker$Rod", rfl, rfl, by decide, kf5, tbG_in (List.mem_append_right _ (List.mem_of_getElem? (i := 360) (by decide +kernel))) rfl, Or.inr (tbG_in (List.mem_append_right _ (List.mem_of_getElem? (i := 361) (by decide +kernel))) rfl)⟩
theorem ls6_47_lean : LkS miX6_lean miX6_loadOf 47 1 := ⟨⟨⟨tbG_in (List.mem_append_right _ (List.mem_of_getElem? (i := 706) (by decide +kernel))) rfl, tbG_in (List.mem_append_right _ (List.mem_of_getElem? (i := 14) (by decide +kernel))) rfl, tbG_in (List.mem_append_right _ (List.mem_of_getElem? (i := 704) (by decide +kernel))) rfl⟩, ⟨by decide +kernel, by decide +kernel, by decide +kernel⟩, by decide⟩, tbG_in (List.mem_append_right _ (List.mem_of_getElem? (i := 705) (by decide +kernel))) rfl⟩
set_option maxHeartbeats 8000000 in
set_option maxRecDepth 4000 in
theorem bX6_lean_0 {d n : Nat} {dy : Nat → Shp} {g : Hp} {P : Pst} {r0 : Nat} (hn : 100 ≤ n) (h : (Ob n (W0 dy) r0 5) ∧ Runs miX6_loadOf d [.ref ((g r0 14).toNat)] n (W0 dy) g (fun v n' S' g' => V miX6_lean (d + 1) 10 [(0, .ref r0)] (v.toList ++ [L_ 2]) n' S' g' 0 0 P)) : V miX6_lean (d + 1) 0 [(0, .ref r0)] [] n (W0 dy) g 0 0 P := by
  refine v_ldc2 (v := 2) 0 rfl (tbG_in (List.mem_append_right _ (List.mem_of_getElem? (i := 703) (by decide +kernel))) rfl) ?_
  refine v_aload_n 1 0 rfl rfl rfl ?_
  have c1 := h.1
  have h := h.2
  refine v_gR 2 rfl fl6_18_5.r c1.1 c1.2.1 (by decide) rfl (c1.2.2 14) (x := g r0 14) rfl ?_
  refine v_callS (st := [L_ 2]) [.ref ((g r0 14).toNat)] 3 rfl ls6_47_lean rfl (Nat.lt_of_lt_of_le (by decide) hn) (Nat.le_refl _) (Nat.le_refl _) ?_
  exact h
set_option maxHeartbeats 8000000 in
set_option maxRecDepth 4000 in
theorem bX6_lean_10 {d n : Nat} {dy : Nat → Shp} {g : Hp} {P : Pst} {r0 : Nat} {xs0 : Int} {xs1 : Int} (hn : 100 ≤ n) (h : (Ob n (W0 dy) r0 5) ∧ Runs miX6_loadOf d [.ref ((g r0 15).toNat)] n (W0 dy) g (fun v n' S' g' => V miX6_lean (d + 1) 23 [(0, .ref r0)] (v.toList ++ [L_ (xs1 * (g r0 12)), L_ xs0]) n' S' g' 0 0 P)) : V miX6_lean (d + 1) 10 [(0, .ref r0)] [L_ xs1, L_ xs0] n (W0 dy) g 0 0 P := by
  refine v_aload_n 4 0 rfl rfl rfl ?_
  have c1 := h.1
  have h := h.2
  refine v_gI 5 rfl fl6_9_5.r c1.1 c1.2.1 (by decide) rfl (c1.2.2 12) (x := g r0 12) rfl ?_
  refine v_rng fun w2 => ?_
  have p3 : i3 (g r0 12) := rI w2 (q := 12) c1.1 c1.2.1 rfl rfl
  refine v_i2l 6 rfl p3 ?_
  refine v_lmul 7 rfl ?_
  refine v_aload_n 8 0 rfl rfl rfl ?_
  refine v_gR 9 rfl fl6_22_5.r c1.1 c1.2.1 (by decide) rfl (c1.2.2 15) (x := g r0 15) rfl ?_
  refine v_callS (st := [L_ (xs1 * (g r0 12)), L_ xs0]) [.ref ((g r0 15).toNat)] 10 rfl ls6_47_lean rfl (Nat.lt_of_lt_of_le (by decide) hn) (Nat.le_refl _) (Nat.le_refl _) ?_
  exact h
set_option maxHeartbeats 8000000 in
set_option maxRecDepth 4000 in
theorem bX6_lean_23 {d n : Nat} {dy : Nat → Shp} {g : Hp} {P : Pst} {r0 : Nat} {xs0 : Int} {xs1 : Int} {xs2 : Int} (hn : 100 ≤ n) (h : (Ob n (W0 dy) r0 5) ∧ (i3 ((g r0 13) - (g r0 12))) ∧ P (some (L_ ((xs0 * (xs1 - (xs2 * ((g r0 13) - (g r0 12))))) + ((g r0 2) * ((2 * (g r0 12)) - (g r0 13)))))) n (W0 dy) g) : V miX6_lean (d + 1) 23 [(0, .ref r0)] [L_ xs2, L_ xs1, L_ xs0] n (W0 dy) g 0 0 P := by
  refine v_aload_n 11 0 rfl rfl rfl ?_
  have c1 := h.1
  have h := h.2
  refine v_gI 12 rfl fl6_15_5.r c1.1 c1.2.1 (by decide) rfl (c1.2.2 13) (x := g r0 13) rfl ?_
  refine v_rng fun w2 => ?_
  have p3 : i3 (g r0 13) := rI w2 (q := 13) c1.1 c1.2.1 rfl rfl
  refine v_aload_n 13 0 rfl rfl rfl ?_
  refine v_gI 14 rfl fl6_9_5.r c1.1 c1.2.1 (by decide) rfl (c1.2.2 12) (x := g r0 12) rfl ?_
  refine v_rng fun w4 => ?_
  have p5 : i3 (g r0 12) := rI w4 (q := 12) c1.1 c1.2.1 rfl rfl
  refine v_isub 15 rfl ?_
  have c6 := h.1
  have h := h.2
  refine v_i2l 16 rfl c6 ?_
  refine v_lmul 17 rfl ?_
  refine v_lsub 18 rfl ?_
  refine v_lmul 19 rfl ?_
  refine v_aload_n 20 0 rfl rfl rfl ?_
  refine v_gI 21 rfl fl6_51_5 c1.1 c1.2.1 (by decide) rfl (c1.2.2 2) (x := g r0 2) rfl ?_
  refine v_rng fun w7 => ?_
  have p8 : i3 (g r0 2) := rI w7 (q := 2) c1.1 c1.2.1 rfl rfl
  refine v_i2l 22 rfl p8 ?_
  refine v_ldc2 (v := 2) 23 rfl (tbG_in (List.mem_append_right _ (List.mem_of_getElem? (i := 703) (by decide +kernel))) rfl) ?_
  refine v_aload_n 24 0 rfl rfl rfl ?_
  refine v_gI 25 rfl fl6_9_5.r c1.1 c1.2.1 (by decide) rfl (c1.2.2 12) (x := g r0 12) rfl ?_
  refine v_rng fun w9 => ?_
  have p10 : i3 (g r0 12) := rI w9 (q := 12) c1.1 c1.2.1 rfl rfl
  refine v_i2l 26 rfl p10 ?_
  refine v_lmul 27 rfl ?_
  refine v_aload_n 28 0 rfl rfl rfl ?_
  refine v_gI 29 rfl fl6_15_5.r c1.1 c1.2.1 (by decide) rfl (c1.2.2 13) (x := g r0 13) rfl ?_
  refine v_rng fun w11 => ?_
  have p12 : i3 (g r0 13) := rI w11 (q := 13) c1.1 c1.2.1 rfl rfl
  refine v_i2l 30 rfl p12 ?_
  refine v_lsub 31 rfl ?_
  refine v_lmul 32 rfl ?_
  refine v_ladd 33 rfl ?_
  exact v_ret (v := some (L_ ((xs0 * (xs1 - (xs2 * ((g r0 13) - (g r0 12))))) + ((g r0 2) * ((2 * (g r0 12)) - (g r0 13)))))) 34 rfl (Nat.zero_le _) (Nat.zero_le _) trivial rfl h
theorem wX6_lean {d n : Nat} {dy : Nat → Shp} {g : Hp} {P : Pst} {r0 : Nat} (hn : 100 ≤ n) (h : (Ob n (W0 dy) r0 5) ∧ Runs miX6_loadOf d [.ref ((g r0 14).toNat)] n (W0 dy) g (fun v n' S' g' => V miX6_lean (d + 1) 10 [(0, .ref r0)] (v.toList ++ [L_ 2]) n' S' g' 0 0 P)) : Runs miX6_lean (d + 1) [.ref r0] n (W0 dy) g P := Runs.of rfl rfl deX6_lean (Nat.le_of_ble_eq_true rfl) (bX6_lean_0 hn h)
theorem ls6_54_keepsLevelBare : LkS miX6_keepsLevelBare miX6_bareLossOf 54 1 := ⟨⟨⟨tbG_in (List.mem_append_right _ (List.mem_of_getElem? (i := 981) (by decide +kernel))) rfl, tbG_in (List.mem_append_right _ (List.mem_of_getElem? (i := 14) (by decide +kernel))) rfl, tbG_in (List.mem_append_right _ (List.mem_of_getElem? (i := 979) (by decide +kernel))) rfl⟩, ⟨by decide +kernel, by decide +kernel, by decide +kernel⟩, by decide⟩, tbG_in (List.mem_append_right _ (List.mem_of_getElem? (i := 980) (by decide +kernel))) rfl⟩
set_option maxHeartbeats 8000000 in
set_option maxRecDepth 4000 in
theorem bX6_keepsLevelBare_0 {d n : Nat} {dy : Nat → Shp} {g : Hp} {P : Pst} {r0 : Nat} (hn : 100 ≤ n) (h : (Ob n (W0 dy) r0 5) ∧ Runs miX6_bareLossOf d [.ref ((g r0 14).toNat)] n (W0 dy) g (fun v n' S' g' => V miX6_keepsLevelBare (d + 1) 7 [(0, .ref r0)] (v.toList ++ []) n' S' g' 0 0 P)) : V miX6_keepsLevelBare (d + 1) 0 [(0, .ref r0)] [] n (W0 dy) g 0 0 P := by
  refine v_aload_n 0 0 rfl rfl rfl ?_
  have c1 := h.1
  have h := h.2
  refine v_gR 1 rfl fl6_18_5.r c1.1 c1.2.1 (by decide) rfl (c1.2.2 14) (x := g r0 14) rfl ?_
  refine v_callS (st := []) [.ref ((g r0 14).toNat)] 2 rfl ls6_54_keepsLevelBare rfl (Nat.lt_of_lt_of_le (by decide) hn) (Nat.le_refl _) (Nat.le_refl _) ?_
  exact h
set_option maxHeartbeats 8000000 in
set_option maxRecDepth 4000 in
theorem bX6_keepsLevelBare_7 {d n : Nat} {dy : Nat → Shp} {g : Hp} {P : Pst} {r0 : Nat} {xs0 : Int} (hn : 100 ≤ n) (h : (Ob n (W0 dy) r0 5) ∧ Runs miX6_bareLossOf d [.ref ((g r0 15).toNat)] n (W0 dy) g (fun v n' S' g' => V miX6_keepsLevelBare (d + 1) 20 [(0, .ref r0)] (v.toList ++ [L_ (xs0 * (g r0 12))]) n' S' g' 0 0 P)) : V miX6_keepsLevelBare (d + 1) 7 [(0, .ref r0)] [L_ xs0] n (W0 dy) g 0 0 P := by
  refine v_aload_n 3 0 rfl rfl rfl ?_
  have c1 := h.1
  have h := h.2
  refine v_gI 4 rfl fl6_9_5.r c1.1 c1.2.1 (by decide) rfl (c1.2.2 12) (x := g r0 12) rfl ?_
  refine v_rng fun w2 => ?_
  have p3 : i3 (g r0 12) := rI w2 (q := 12) c1.1 c1.2.1 rfl rfl
  refine v_i2l 5 rfl p3 ?_
  refine v_lmul 6 rfl ?_
  refine v_aload_n 7 0 rfl rfl rfl ?_
  refine v_gR 8 rfl fl6_22_5.r c1.1 c1.2.1 (by decide) rfl (c1.2.2 15) (x := g r0 15) rfl ?_
  refine v_callS (st := [L_ (xs0 * (g r0 12))]) [.ref ((g r0 15).toNat)] 9 rfl ls6_54_keepsLevelBare rfl (Nat.lt_of_lt_of_le (by decide) hn) (Nat.le_refl _) (Nat.le_refl _) ?_
  exact h
set_option maxHeartbeats 8000000 in
set_option maxRecDepth 4000 in
theorem bX6_keepsLevelBare_20 {d n : Nat} {dy : Nat → Shp} {g : Hp} {P : Pst} {r0 : Nat} {xs0 : Int} {xs1 : Int} (hn : 100 ≤ n) (h : (Ob n (W0 dy) r0 5) ∧ (i3 ((g r0 13) - (g r0 12))) ∧ (i6 xs0) ∧ (i6 (xs1 * ((g r0 13) - (g r0 12)))) ∧ ((xs0 ≠ (xs1 * ((g r0 13) - (g r0 12)))) → P (some (I_ 0)) n (W0 dy) g) ∧ ((xs0 = (xs1 * ((g r0 13) - (g r0 12)))) → P (some (I_ 1)) n (W0 dy) g)) : V miX6_keepsLevelBare (d + 1) 20 [(0, .ref r0)] [L_ xs1, L_ xs0] n (W0 dy) g 0 0 P := by
  refine v_aload_n 10 0 rfl rfl rfl ?_
  have c1 := h.1
  have h := h.2
  refine v_gI 11 rfl fl6_15_5.r c1.1 c1.2.1 (by decide) rfl (c1.2.2 13) (x := g r0 13) rfl ?_
  refine v_rng fun w2 => ?_
  have p3 : i3 (g r0 13) := rI w2 (q := 13) c1.1 c1.2.1 rfl rfl
  refine v_aload_n 12 0 rfl rfl rfl ?_
  refine v_gI 13 rfl fl6_9_5.r c1.1 c1.2.1 (by decide) rfl (c1.2.2 12) (x := g r0 12) rfl ?_
  refine v_rng fun w4 => ?_
  have p5 : i3 (g r0 12) := rI w4 (q := 12) c1.1 c1.2.1 rfl rfl
  refine v_isub 14 rfl ?_
  have c6 := h.1
  have h := h.2
  refine v_i2l 15 rfl c6 ?_
  refine v_lmul 16 rfl ?_
  have c7 := h.1
  have h := h.2
  have c8 := h.1
  have h := h.2
  refine v_lif_ne 17 rfl rfl (tgt := 39) rfl c7 c8 (fun q9 => ?_) (fun q9 => ?_)
  · have h := h.1 q9
    refine v_iconst 21 rfl ?_
    exact v_ret (v := some (I_ 0)) 22 rfl (Nat.zero_le _) (Nat.zero_le _) (Or.inl rfl) rfl h
  · have h := h.2 q9
    refine v_iconst 19 rfl ?_
    refine v_goto 20 rfl (tgt := 40) rfl ?_
    exact v_ret (v := some (I_ 1)) 22 rfl (Nat.zero_le _) (Nat.zero_le _) (Or.inr rfl) rfl h
theorem wX6_keepsLevelBare {d n : Nat} {dy : Nat → Shp} {g : Hp} {P : Pst} {r0 : Nat} (hn : 100 ≤ n) (h : (Ob n (W0 dy) r0 5) ∧ Runs miX6_bareLossOf d [.ref ((g r0 14).toNat)] n (W0 dy) g (fun v n' S' g' => V miX6_keepsLevelBare (d + 1) 7 [(0, .ref r0)] (v.toList ++ []) n' S' g' 0 0 P)) : Runs miX6_keepsLevelBare (d + 1) [.ref r0] n (W0 dy) g P := Runs.of rfl rfl deX6_keepsLevelBare (Nat.le_of_ble_eq_true rfl) (bX6_keepsLevelBare_0 hn h)
theorem ls6_47_upperShare : LkS miX6_upperShare miX6_loadOf 47 1 := ⟨⟨⟨tbG_in (List.mem_append_right _ (List.mem_of_getElem? (i := 706) (by decide +kernel))) rfl, tbG_in (List.mem_append_right _ (List.mem_of_getElem? (i := 14) (by decide +kernel))) rfl, tbG_in (List.mem_append_right _ (List.mem_of_getElem? (i := 704) (by decide +kernel))) rfl⟩, ⟨by decide +kernel, by decide +kernel, by decide +kernel⟩, by decide⟩, tbG_in (List.mem_append_right _ (List.mem_of_getElem? (i := 705) (by decide +kernel))) rfl⟩
set_option maxHeartbeats 8000000 in
set_option maxRecDepth 4000 in
theorem bX6_upperShare_0 {d n : Nat} {dy : Nat → Shp} {g : Hp} {P : Pst} {r0 : Nat} (hn : 100 ≤ n) (h : (Ob n (W0 dy) r0 5) ∧ Runs miX6_loadOf d [.ref ((g r0 15).toNat)] n (W0 dy) g (fun v n' S' g' => V miX6_upperShare (d + 1) 10 [(0, .ref r0)] (v.toList ++ [L_ 2]) n' S' g' 0 0 P)) : V miX6_upperShare (d + 1) 0 [(0, .ref r0)] [] n (W0 dy) g 0 0 P := by
  refine v_ldc2 (v := 2) 0 rfl (tbG_in (List.mem_append_right _ (List.mem_of_getElem? (i := 703) (by decide +kernel))) rfl) ?_
  refine v_aload_n 1 0 rfl rfl rfl ?_
  have c1 := h.1
  have h := h.2
  refine v_gR 2 rfl fl6_22_5.r c1.1 c1.2.1 (by decide) rfl (c1.2.2 15) (x := g r0 15) rfl ?_
  refine v_callS (st := [L_ 2]) [.ref ((g r0 15).toNat)] 3 rfl ls6_47_upperShare rfl (Nat.lt_of_lt_of_le (by decide) hn) (Nat.le_refl _) (Nat.le_refl _) ?_
  exact h
set_option maxHeartbeats 8000000 in
set_option maxRecDepth 4000 in
theorem bX6_upperShare_10 {d n : Nat} {dy : Nat → Shp} {g : Hp} {P : Pst} {r0 : Nat} {xs0 : Int} {xs1 : Int} (hn : 100 ≤ n) (h : (Ob n (W0 dy) r0 5) ∧ P (some (L_ ((xs0 * xs1) + (g r0 2)))) n (W0 dy) g) : V miX6_upperShare (d + 1) 10 [(0, .ref r0)] [L_ xs1, L_ xs0] n (W0 dy) g 0 0 P := by
  refine v_lmul 4 rfl ?_
  refine v_aload_n 5 0 rfl rfl rfl ?_
  have c1 := h.1
  have h := h.2
  refine v_gI 6 rfl fl6_51_5 c1.1 c1.2.1 (by decide) rfl (c1.2.2 2) (x := g r0 2) rfl ?_
  refine v_rng fun w2 => ?_
  have p3 : i3 (g r0 2) := rI w2 (q := 2) c1.1 c1.2.1 rfl rfl
  refine v_i2l 7 rfl p3 ?_
  refine v_ladd 8 rfl ?_
  exact v_ret (v := some (L_ ((xs0 * xs1) + (g r0 2)))) 9 rfl (Nat.zero_le _) (Nat.zero_le _) trivial rfl h
theorem wX6_upperShare {d n : Nat} {dy : Nat → Shp} {g : Hp} {P : Pst} {r0 : Nat} (hn : 100 ≤ n) (h : (Ob n (W0 dy) r0 5) ∧ Runs miX6_loadOf d [.ref ((g r0 15).toNat)] n (W0 dy) g (fun v n' S' g' => V miX6_upperShare (d + 1) 10 [(0, .ref r0)] (v.toList ++ [L_ 2]) n' S' g' 0 0 P)) : Runs miX6_upperShare (d + 1) [.ref r0] n (W0 dy) g P := Runs.of rfl rfl deX6_upperShare (Nat.le_of_ble_eq_true rfl) (bX6_upperShare_0 hn h)
theorem ls6_47_lowerShare : LkS miX6_lowerShare miX6_loadOf 47 1 := ⟨⟨⟨tbG_in (List.mem_append_right _ (List.mem_of_getElem? (i := 706) (by decide +kernel))) rfl, tbG_in (List.mem_append_right _ (List.mem_of_getElem? (i := 14) (by decide +kernel))) rfl, tbG_in (List.mem_append_right _ (List.mem_of_getElem? (i := 704) (by decide +kernel))) rfl⟩, ⟨by decide +kernel, by decide +kernel, by decide +kernel⟩, by decide⟩, tbG_in (List.mem_append_right _ (List.mem_of_getElem? (i := 705) (by decide +kernel))) rfl⟩
set_option maxHeartbeats 8000000 in
set_option maxRecDepth 4000 in
theorem bX6_lowerShare_0 {d n : Nat} {dy : Nat → Shp} {g : Hp} {P : Pst} {r0 : Nat} (hn : 100 ≤ n) (h : (Ob n (W0 dy) r0 5) ∧ Runs miX6_loadOf d [.ref ((g r0 14).toNat)] n (W0 dy) g (fun v n' S' g' => V miX6_lowerShare (d + 1) 10 [(0, .ref r0)] (v.toList ++ [L_ 2]) n' S' g' 0 0 P)) : V miX6_lowerShare (d + 1) 0 [(0, .ref r0)] [] n (W0 dy) g 0 0 P := by
  refine v_ldc2 (v := 2) 0 rfl (tbG_in (List.mem_append_right _ (List.mem_of_getElem? (i := 703) (by decide +kernel))) rfl) ?_
  refine v_aload_n 1 0 rfl rfl rfl ?_
  have c1 := h.1
  have h := h.2
  refine v_gR 2 rfl fl6_18_5.r c1.1 c1.2.1 (by decide) rfl (c1.2.2 14) (x := g r0 14) rfl ?_
  refine v_callS (st := [L_ 2]) [.ref ((g r0 14).toNat)] 3 rfl ls6_47_lowerShare rfl (Nat.lt_of_lt_of_le (by decide) hn) (Nat.le_refl _) (Nat.le_refl _) ?_
  exact h
set_option maxHeartbeats 8000000 in
set_option maxRecDepth 4000 in
theorem bX6_lowerShare_10 {d n : Nat} {dy : Nat → Shp} {g : Hp} {P : Pst} {r0 : Nat} {xs0 : Int} {xs1 : Int} (hn : 100 ≤ n) (h : (Ob n (W0 dy) r0 5) ∧ Runs miX6_loadOf d [.ref ((g r0 15).toNat)] n (W0 dy) g (fun v n' S' g' => V miX6_lowerShare (d + 1) 17 [(0, .ref r0)] (v.toList ++ [L_ xs1, L_ xs0]) n' S' g' 0 0 P)) : V miX6_lowerShare (d + 1) 10 [(0, .ref r0)] [L_ xs1, L_ xs0] n (W0 dy) g 0 0 P := by
  refine v_aload_n 4 0 rfl rfl rfl ?_
  have c1 := h.1
  have h := h.2
  refine v_gR 5 rfl fl6_22_5.r c1.1 c1.2.1 (by decide) rfl (c1.2.2 15) (x := g r0 15) rfl ?_
  refine v_callS (st := [L_ xs1, L_ xs0]) [.ref ((g r0 15).toNat)] 6 rfl ls6_47_lowerShare rfl (Nat.lt_of_lt_of_le (by decide) hn) (Nat.le_refl _) (Nat.le_refl _) ?_
  exact h
set_option maxHeartbeats 8000000 in
set_option maxRecDepth 4000 in
theorem bX6_lowerShare_17 {d n : Nat} {dy : Nat → Shp} {g : Hp} {P : Pst} {r0 : Nat} {xs0 : Int} {xs1 : Int} {xs2 : Int} (hn : 100 ≤ n) (h : (Ob n (W0 dy) r0 5) ∧ P (some (L_ (xs0 * ((xs1 + xs2) + (g r0 2))))) n (W0 dy) g) : V miX6_lowerShare (d + 1) 17 [(0, .ref r0)] [L_ xs2, L_ xs1, L_ xs0] n (W0 dy) g 0 0 P := by
  refine v_ladd 7 rfl ?_
  refine v_aload_n 8 0 rfl rfl rfl ?_
  have c1 := h.1
  have h := h.2
  refine v_gI 9 rfl fl6_51_5 c1.1 c1.2.1 (by decide) rfl (c1.2.2 2) (x := g r0 2) rfl ?_
  refine v_rng fun w2 => ?_
  have p3 : i3 (g r0 2) := rI w2 (q := 2) c1.1 c1.2.1 rfl rfl
  refine v_i2l 10 rfl p3 ?_
  refine v_ladd 11 rfl ?_
  refine v_lmul 12 rfl ?_
  exact v_ret (v := some (L_ (xs0 * ((xs1 + xs2) + (g r0 2))))) 13 rfl (Nat.zero_le _) (Nat.zero_le _) trivial rfl h
theorem wX6_lowerShare {d n : Nat} {dy : Nat → Shp} {g : Hp} {P : Pst} {r0 : Nat} (hn : 100 ≤ n) (h : (Ob n (W0 dy) r0 5) ∧ Runs miX6_loadOf d [.ref ((g r0 14).toNat)] n (W0 dy) g (fun v n' S' g' => V miX6_lowerShare (d + 1) 10 [(0, .ref r0)] (v.toList ++ [L_ 2]) n' S' g' 0 0 P)) : Runs miX6_lowerShare (d + 1) [.ref r0] n (W0 dy) g P := Runs.of rfl rfl deX6_lowerShare (Nat.le_of_ble_eq_true rfl) (bX6_lowerShare_0 hn h)
theorem lv6_57_canBeLevel_5 : LkV miX6_canBeLevel miX6_upperShare 57 0 5 := ⟨⟨⟨tbG_in (List.mem_append_right _ (List.mem_of_getElem? (i := 731) (by decide +kernel))) rfl, tbG_in (List.mem_append_right _ (List.mem_of_getElem? (i := 14) (by decide +kernel))) rfl, tbG_in (List.mem_append_right _ (List.mem_of_getElem? (i := 728) (by decide +kernel))) rfl⟩, ⟨by decide +kernel, by decide +kernel, by decide +kernel⟩, by decide⟩, tbG_in (List.mem_append_right _ (List.mem_of_getElem? (i := 730) (by decide +kernel))) rfl, RX6, TX6, 16, rfl, tbG_in (List.mem_append_left _ (List.mem_of_getElem? (i := 17) (by decide +kernel))) rfl⟩
theorem lv6_61_canBeLevel_5 : LkV miX6_canBeLevel miX6_lowerShare 61 0 5 := ⟨⟨⟨tbG_in (List.mem_append_right _ (List.mem_of_getElem? (i := 735) (by decide +kernel))) rfl, tbG_in (List.mem_append_right _ (List.mem_of_getElem? (i := 14) (by decide +kernel))) rfl, tbG_in (List.mem_append_right _ (List.mem_of_getElem? (i := 732) (by decide +kernel))) rfl⟩, ⟨by decide +kernel, by decide +kernel, by decide +kernel⟩, by decide⟩, tbG_in (List.mem_append_right _ (List.mem_of_getElem? (i := 734) (by decide +kernel))) rfl, RX6, TX6, 16, rfl, tbG_in (List.mem_append_left _ (List.mem_of_getElem? (i := 18) (by decide +kernel))) rfl⟩
set_option maxHeartbeats 8000000 in
set_option maxRecDepth 4000 in
theorem bX6_canBeLevel_0 {d n : Nat} {dy : Nat → Shp} {g : Hp} {P : Pst} {r0 : Nat} (hn : 100 ≤ n) (h : (Ob n (W0 dy) r0 5) ∧ Runs miX6_upperShare d [.ref r0] n (W0 dy) g (fun v n' S' g' => V miX6_canBeLevel (d + 1) 4 [(0, .ref r0)] (v.toList ++ []) n' S' g' 0 0 P)) : V miX6_canBeLevel (d + 1) 0 [(0, .ref r0)] [] n (W0 dy) g 0 0 P := by
  refine v_aload_n 0 0 rfl rfl rfl ?_
  have c1 := h.1
  have h := h.2
  refine v_callV (st := []) [] 1 rfl lv6_57_canBeLevel_5 c1.1 c1.2.1 (by decide) rfl (Nat.le_refl _) (Nat.le_refl _) ?_
  exact h
set_option maxHeartbeats 8000000 in
set_option maxRecDepth 4000 in
theorem bX6_canBeLevel_4 {d n : Nat} {dy : Nat → Shp} {g : Hp} {P : Pst} {r0 : Nat} {xs0 : Int} (hn : 100 ≤ n) (h : (i6 xs0) ∧ ((xs0 ≤ 0) → P (some (I_ 0)) n (W0 dy) g) ∧ ((0 < xs0) → (Ob n (W0 dy) r0 5) ∧ Runs miX6_upperShare d [.ref r0] n (W0 dy) g (fun v n' S' g' => V miX6_canBeLevel (d + 1) 13 [(0, .ref r0)] (v.toList ++ []) n' S' g' 0 0 P))) : V miX6_canBeLevel (d + 1) 4 [(0, .ref r0)] [L_ xs0] n (W0 dy) g 0 0 P := by
  refine v_lconst (v := 0) 2 rfl (by decide) ?_
  have c1 := h.1
  have h := h.2
  refine v_lif_le 3 rfl rfl (tgt := 25) rfl c1 (by decide) (fun q2 => ?_) (fun q2 => ?_)
  · have h := h.1 q2
    refine v_iconst 13 rfl ?_
    exact v_ret (v := some (I_ 0)) 14 rfl (Nat.zero_le _) (Nat.zero_le _) (Or.inl rfl) rfl h
  · have h := h.2 q2
    refine v_aload_n 5 0 rfl rfl rfl ?_
    have c3 := h.1
    have h := h.2
    refine v_callV (st := []) [] 6 rfl lv6_57_canBeLevel_5 c3.1 c3.2.1 (by decide) rfl (Nat.le_refl _) (Nat.le_refl _) ?_
    exact h
set_option maxHeartbeats 8000000 in
set_option maxRecDepth 4000 in
theorem bX6_canBeLevel_13 {d n : Nat} {dy : Nat → Shp} {g : Hp} {P : Pst} {r0 : Nat} {xs0 : Int} (hn : 100 ≤ n) (h : (Ob n (W0 dy) r0 5) ∧ Runs miX6_lowerShare d [.ref r0] n (W0 dy) g (fun v n' S' g' => V miX6_canBeLevel (d + 1) 17 [(0, .ref r0)] (v.toList ++ [L_ xs0]) n' S' g' 0 0 P)) : V miX6_canBeLevel (d + 1) 13 [(0, .ref r0)] [L_ xs0] n (W0 dy) g 0 0 P := by
  refine v_aload_n 7 0 rfl rfl rfl ?_
  have c1 := h.1
  have h := h.2
  refine v_callV (st := [L_ xs0]) [] 8 rfl lv6_61_canBeLevel_5 c1.1 c1.2.1 (by decide) rfl (Nat.le_refl _) (Nat.le_refl _) ?_
  exact h
set_option maxHeartbeats 8000000 in
set_option maxRecDepth 4000 in
theorem bX6_canBeLevel_17 {d n : Nat} {dy : Nat → Shp} {g : Hp} {P : Pst} {r0 : Nat} {xs0 : Int} {xs1 : Int} (hn : 100 ≤ n) (h : (i6 xs0) ∧ (i6 xs1) ∧ ((xs1 ≤ xs0) → P (some (I_ 0)) n (W0 dy) g) ∧ ((xs0 < xs1) → P (some (I_ 1)) n (W0 dy) g)) : V miX6_canBeLevel (d + 1) 17 [(0, .ref r0)] [L_ xs1, L_ xs0] n (W0 dy) g 0 0 P := by
  have c1 := h.1
  have h := h.2
  have c2 := h.1
  have h := h.2
  refine v_lif_ge 9 rfl rfl (tgt := 25) rfl c1 c2 (fun q3 => ?_) (fun q3 => ?_)
  · have h := h.1 q3
    refine v_iconst 13 rfl ?_
    exact v_ret (v := some (I_ 0)) 14 rfl (Nat.zero_le _) (Nat.zero_le _) (Or.inl rfl) rfl h
  · have h := h.2 q3
    refine v_iconst 11 rfl ?_
    refine v_goto 12 rfl (tgt := 26) rfl ?_
    exact v_ret (v := some (I_ 1)) 14 rfl (Nat.zero_le _) (Nat.zero_le _) (Or.inr rfl) rfl h
theorem wX6_canBeLevel {d n : Nat} {dy : Nat → Shp} {g : Hp} {P : Pst} {r0 : Nat} (hn : 100 ≤ n) (h : (Ob n (W0 dy) r0 5) ∧ Runs miX6_upperShare d [.ref r0] n (W0 dy) g (fun v n' S' g' => V miX6_canBeLevel (d + 1) 4 [(0, .ref r0)] (v.toList ++ []) n' S' g' 0 0 P)) : Runs miX6_canBeLevel (d + 1) [.ref r0] n (W0 dy) g P := Runs.of rfl rfl deX6_canBeLevel (Nat.le_of_ble_eq_true rfl) (bX6_canBeLevel_0 hn h)
theorem lv6_57_levelUpper_5 : LkV miX6_levelUpper miX6_upperShare 57 0 5 := ⟨⟨⟨tbG_in (List.mem_append_right _ (List.mem_of_getElem? (i := 731) (by decide +kernel))) rfl, tbG_in (List.mem_append_right _ (List.mem_of_getElem? (i := 14) (by decide +kernel))) rfl, tbG_in (List.mem_append_right _ (List.mem_of_getElem? (i := 728) (by decide +kernel))) rfl⟩, ⟨by decide +kernel, by decide +kernel, by decide +kernel⟩, by decide⟩, tbG_in (List.mem_append_right _ (List.mem_of_getElem? (i := 730) (by decide +kernel))) rfl, RX6, TX6, 16, rfl, tbG_in (List.mem_append_left _ (List.mem_of_getElem? (i := 17) (by decide +kernel))) rfl⟩
theorem lv6_61_levelUpper_5 : LkV miX6_levelUpper miX6_lowerShare 61 0 5 := ⟨⟨⟨tbG_in (List.mem_append_right _ (List.mem_of_getElem? (i := 735) (by decide +kernel))) rfl, tbG_in (List.mem_append_right _ (List.mem_of_getElem? (i := 14) (by decide +kernel))) rfl, tbG_in (List.mem_append_right _ (List.mem_of_getElem? (i := 732) (by decide +kernel))) rfl⟩, ⟨by decide +kernel, by decide +kernel, by decide +kernel⟩, by decide⟩, tbG_in (List.mem_append_right _ (List.mem_of_getElem? (i := 734) (by decide +kernel))) rfl, RX6, TX6, 16, rfl, tbG_in (List.mem_append_left _ (List.mem_of_getElem? (i := 18) (by decide +kernel))) rfl⟩
theorem ln6_64_levelUpper : LkN miX6_levelUpper miX11_commonDivisor 64 2 "MobileMaker" := ⟨⟨tbG_in (List.mem_append_right _ (List.mem_of_getElem? (i := 566) (by decide +kernel))) rfl, tbG_in (List.mem_append_right _ (List.mem_of_getElem? (i := 1) (by decide +kernel))) rfl, by decide⟩, ⟨by decide +kernel, by decide +kernel, by decide +kernel⟩, by decide, tbG_in (List.mem_append_right _ (List.mem_of_getElem? (i := 565) (by decide +kernel))) rfl, rfl⟩
set_option maxHeartbeats 8000000 in
set_option maxRecDepth 4000 in
theorem bX6_levelUpper_0 {d n : Nat} {dy : Nat → Shp} {g : Hp} {P : Pst} {r0 : Nat} (hn : 100 ≤ n) (h : (Ob n (W0 dy) r0 5) ∧ Runs miX6_upperShare d [.ref r0] n (W0 dy) g (fun v n' S' g' => V miX6_levelUpper (d + 1) 4 [(0, .ref r0)] (v.toList ++ []) n' S' g' 0 0 P)) : V miX6_levelUpper (d + 1) 0 [(0, .ref r0)] [] n (W0 dy) g 0 0 P := by
  refine v_aload_n 0 0 rfl rfl rfl ?_
  have c1 := h.1
  have h := h.2
  refine v_callV (st := []) [] 1 rfl lv6_57_levelUpper_5 c1.1 c1.2.1 (by decide) rfl (Nat.le_refl _) (Nat.le_refl _) ?_
  exact h
set_option maxHeartbeats 8000000 in
set_option maxRecDepth 4000 in
theorem bX6_levelUpper_4 {d n : Nat} {dy : Nat → Shp} {g : Hp} {P : Pst} {r0 : Nat} {xs0 : Int} (hn : 100 ≤ n) (h : (Ob n (W0 dy) r0 5) ∧ Runs miX6_upperShare d [.ref r0] n (W0 dy) g (fun v n' S' g' => V miX6_levelUpper (d + 1) 8 [(0, .ref r0)] (v.toList ++ [L_ xs0]) n' S' g' 0 0 P)) : V miX6_levelUpper (d + 1) 4 [(0, .ref r0)] [L_ xs0] n (W0 dy) g 0 0 P := by
  refine v_aload_n 2 0 rfl rfl rfl ?_
  have c1 := h.1
  have h := h.2
  refine v_callV (st := [L_ xs0]) [] 3 rfl lv6_57_levelUpper_5 c1.1 c1.2.1 (by decide) rfl (Nat.le_refl _) (Nat.le_refl _) ?_
  exact h
set_option maxHeartbeats 8000000 in
set_option maxRecDepth 4000 in
theorem bX6_levelUpper_8 {d n : Nat} {dy : Nat → Shp} {g : Hp} {P : Pst} {r0 : Nat} {xs0 : Int} {xs1 : Int} (hn : 100 ≤ n) (h : (Ob n (W0 dy) r0 5) ∧ Runs miX6_lowerShare d [.ref r0] n (W0 dy) g (fun v n' S' g' => V miX6_levelUpper (d + 1) 12 [(0, .ref r0)] (v.toList ++ [L_ xs1, L_ xs0]) n' S' g' 0 0 P)) : V miX6_levelUpper (d + 1) 8 [(0, .ref r0)] [L_ xs1, L_ xs0] n (W0 dy) g 0 0 P := by
  refine v_aload_n 4 0 rfl rfl rfl ?_
  have c1 := h.1
  have h := h.2
  refine v_callV (st := [L_ xs1, L_ xs0]) [] 5 rfl lv6_61_levelUpper_5 c1.1 c1.2.1 (by decide) rfl (Nat.le_refl _) (Nat.le_refl _) ?_
  exact h
set_option maxHeartbeats 8000000 in
set_option maxRecDepth 4000 in
theorem bX6_levelUpper_12 {d n : Nat} {dy : Nat → Shp} {g : Hp} {P : Pst} {r0 : Nat} {xs0 : Int} {xs1 : Int} {xs2 : Int} (hn : 100 ≤ n) (h : Runs miX11_commonDivisor d [L_ xs1, L_ xs2] n (W0 dy) g (fun v n' S' g' => V miX6_levelUpper (d + 1) 15 [(0, .ref r0)] (v.toList ++ [L_ xs0]) n' S' g' 0 0 P)) : V miX6_levelUpper (d + 1) 12 [(0, .ref r0)] [L_ xs2, L_ xs1, L_ xs0] n (W0 dy) g 0 0 P := by
  refine v_callSN (st := [L_ xs0]) [L_ xs1, L_ xs2] 6 rfl ln6_64_levelUpper rfl (Nat.lt_of_lt_of_le (by decide) hn) (Nat.le_refl _) (Nat.le_refl _) ?_
  exact h
set_option maxHeartbeats 8000000 in
set_option maxRecDepth 4000 in
theorem bX6_levelUpper_15 {d n : Nat} {dy : Nat → Shp} {g : Hp} {P : Pst} {r0 : Nat} {xs0 : Int} {xs1 : Int} (hn : 100 ≤ n) (h : (i6 xs0) ∧ (i6 xs1) ∧ (xs1 ≠ 0) ∧ P (some (I_ (xs0.tdiv xs1))) n (W0 dy) g) : V miX6_levelUpper (d + 1) 15 [(0, .ref r0)] [L_ xs1, L_ xs0] n (W0 dy) g 0 0 P := by
  have c1 := h.1
  have h := h.2
  have c2 := h.1
  have h := h.2
  have c3 := h.1
  have h := h.2
  refine v_ldiv 7 rfl c1 c2 c3 ?_
  refine v_l2i 8 rfl ?_
  exact v_ret (v := some (I_ (xs0.tdiv xs1))) 9 rfl (Nat.zero_le _) (Nat.zero_le _) trivial rfl h
theorem wX6_levelUpper {d n : Nat} {dy : Nat → Shp} {g : Hp} {P : Pst} {r0 : Nat} (hn : 100 ≤ n) (h : (Ob n (W0 dy) r0 5) ∧ Runs miX6_upperShare d [.ref r0] n (W0 dy) g (fun v n' S' g' => V miX6_levelUpper (d + 1) 4 [(0, .ref r0)] (v.toList ++ []) n' S' g' 0 0 P)) : Runs miX6_levelUpper (d + 1) [.ref r0] n (W0 dy) g P := Runs.of rfl rfl deX6_levelUpper (Nat.le_of_ble_eq_true rfl) (bX6_levelUpper_0 hn h)
theorem lv6_61_levelLower_5 : LkV miX6_levelLower miX6_lowerShare 61 0 5 := ⟨⟨⟨tbG_in (List.mem_append_right _ (List.mem_of_getElem? (i := 735) (by decide +kernel))) rfl, tbG_in (List.mem_append_right _ (List.mem_of_getElem? (i := 14) (by decide +kernel))) rfl, tbG_in (List.mem_append_right _ (List.mem_of_getElem? (i := 732) (by decide +kernel))) rfl⟩, ⟨by decide +kernel, by decide +kernel, by decide +kernel⟩, by decide⟩, tbG_in (List.mem_append_right _ (List.mem_of_getElem? (i := 734) (by decide +kernel))) rfl, RX6, TX6, 16, rfl, tbG_in (List.mem_append_left _ (List.mem_of_getElem? (i := 18) (by decide +kernel))) rfl⟩
theorem lv6_57_levelLower_5 : LkV miX6_levelLower miX6_upperShare 57 0 5 := ⟨⟨⟨tbG_in (List.mem_append_right _ (List.mem_of_getElem? (i := 731) (by decide +kernel))) rfl, tbG_in (List.mem_append_right _ (List.mem_of_getElem? (i := 14) (by decide +kernel))) rfl, tbG_in (List.mem_append_right _ (List.mem_of_getElem? (i := 728) (by decide +kernel))) rfl⟩, ⟨by decide +kernel, by decide +kernel, by decide +kernel⟩, by decide⟩, tbG_in (List.mem_append_right _ (List.mem_of_getElem? (i := 730) (by decide +kernel))) rfl, RX6, TX6, 16, rfl, tbG_in (List.mem_append_left _ (List.mem_of_getElem? (i := 17) (by decide +kernel))) rfl⟩
theorem ln6_64_levelLower : LkN miX6_levelLower miX11_commonDivisor 64 2 "MobileMaker" := ⟨⟨tbG_in (List.mem_append_right _ (List.mem_of_getElem? (i := 566) (by decide +kernel))) rfl, tbG_in (List.mem_append_right _ (List.mem_of_getElem? (i := 1) (by decide +kernel))) rfl, by decide⟩, ⟨by decide +kernel, by decide +kernel, by decide +kernel⟩, by decide, tbG_in (List.mem_append_right _ (List.mem_of_getElem? (i := 565) (by decide +kernel))) rfl, rfl⟩
set_option maxHeartbeats 8000000 in
set_option maxRecDepth 4000 in
theorem bX6_levelLower_0 {d n : Nat} {dy : Nat → Shp} {g : Hp} {P : Pst} {r0 : Nat} (hn : 100 ≤ n) (h : (Ob n (W0 dy) r0 5) ∧ Runs miX6_lowerShare d [.ref r0] n (W0 dy) g (fun v n' S' g' => V miX6_levelLower (d + 1) 4 [(0, .ref r0)] (v.toList ++ []) n' S' g' 0 0 P)) : V miX6_levelLower (d + 1) 0 [(0, .ref r0)] [] n (W0 dy) g 0 0 P := by
  refine v_aload_n 0 0 rfl rfl rfl ?_
  have c1 := h.1
  have h := h.2
  refine v_callV (st := []) [] 1 rfl lv6_61_levelLower_5 c1.1 c1.2.1 (by decide) rfl (Nat.le_refl _) (Nat.le_refl _) ?_
  exact h
set_option maxHeartbeats 8000000 in
set_option maxRecDepth 4000 in
theorem bX6_levelLower_4 {d n : Nat} {dy : Nat → Shp} {g : Hp} {P : Pst} {r0 : Nat} {xs0 : Int} (hn : 100 ≤ n) (h : (Ob n (W0 dy) r0 5) ∧ Runs miX6_upperShare d [.ref r0] n (W0 dy) g (fun v n' S' g' => V miX6_levelLower (d + 1) 8 [(0, .ref r0)] (v.toList ++ [L_ xs0]) n' S' g' 0 0 P)) : V miX6_levelLower (d + 1) 4 [(0, .ref r0)] [L_ xs0] n (W0 dy) g 0 0 P := by
  refine v_aload_n 2 0 rfl rfl rfl ?_
  have c1 := h.1
  have h := h.2
  refine v_callV (st := [L_ xs0]) [] 3 rfl lv6_57_levelLower_5 c1.1 c1.2.1 (by decide) rfl (Nat.le_refl _) (Nat.le_refl _) ?_
  exact h
set_option maxHeartbeats 8000000 in
set_option maxRecDepth 4000 in
theorem bX6_levelLower_8 {d n : Nat} {dy : Nat → Shp} {g : Hp} {P : Pst} {r0 : Nat} {xs0 : Int} {xs1 : Int} (hn : 100 ≤ n) (h : (Ob n (W0 dy) r0 5) ∧ Runs miX6_lowerShare d [.ref r0] n (W0 dy) g (fun v n' S' g' => V miX6_levelLower (d + 1) 12 [(0, .ref r0)] (v.toList ++ [L_ xs1, L_ xs0]) n' S' g' 0 0 P)) : V miX6_levelLower (d + 1) 8 [(0, .ref r0)] [L_ xs1, L_ xs0] n (W0 dy) g 0 0 P := by
  refine v_aload_n 4 0 rfl rfl rfl ?_
  have c1 := h.1
  have h := h.2
  refine v_callV (st := [L_ xs1, L_ xs0]) [] 5 rfl lv6_61_levelLower_5 c1.1 c1.2.1 (by decide) rfl (Nat.le_refl _) (Nat.le_refl _) ?_
  exact h
set_option maxHeartbeats 8000000 in
set_option maxRecDepth 4000 in
theorem bX6_levelLower_12 {d n : Nat} {dy : Nat → Shp} {g : Hp} {P : Pst} {r0 : Nat} {xs0 : Int} {xs1 : Int} {xs2 : Int} (hn : 100 ≤ n) (h : Runs miX11_commonDivisor d [L_ xs1, L_ xs2] n (W0 dy) g (fun v n' S' g' => V miX6_levelLower (d + 1) 15 [(0, .ref r0)] (v.toList ++ [L_ xs0]) n' S' g' 0 0 P)) : V miX6_levelLower (d + 1) 12 [(0, .ref r0)] [L_ xs2, L_ xs1, L_ xs0] n (W0 dy) g 0 0 P := by
  refine v_callSN (st := [L_ xs0]) [L_ xs1, L_ xs2] 6 rfl ln6_64_levelLower rfl (Nat.lt_of_lt_of_le (by decide) hn) (Nat.le_refl _) (Nat.le_refl _) ?_
  exact h
set_option maxHeartbeats 8000000 in
set_option maxRecDepth 4000 in
theorem bX6_levelLower_15 {d n : Nat} {dy : Nat → Shp} {g : Hp} {P : Pst} {r0 : Nat} {xs0 : Int} {xs1 : Int} (hn : 100 ≤ n) (h : (i6 xs0) ∧ (i6 xs1) ∧ (xs1 ≠ 0) ∧ P (some (I_ (xs0.tdiv xs1))) n (W0 dy) g) : V miX6_levelLower (d + 1) 15 [(0, .ref r0)] [L_ xs1, L_ xs0] n (W0 dy) g 0 0 P := by
  have c1 := h.1
  have h := h.2
  have c2 := h.1
  have h := h.2
  have c3 := h.1
  have h := h.2
  refine v_ldiv 7 rfl c1 c2 c3 ?_
  refine v_l2i 8 rfl ?_
  exact v_ret (v := some (I_ (xs0.tdiv xs1))) 9 rfl (Nat.zero_le _) (Nat.zero_le _) trivial rfl h
theorem wX6_levelLower {d n : Nat} {dy : Nat → Shp} {g : Hp} {P : Pst} {r0 : Nat} (hn : 100 ≤ n) (h : (Ob n (W0 dy) r0 5) ∧ Runs miX6_lowerShare d [.ref r0] n (W0 dy) g (fun v n' S' g' => V miX6_levelLower (d + 1) 4 [(0, .ref r0)] (v.toList ++ []) n' S' g' 0 0 P)) : Runs miX6_levelLower (d + 1) [.ref r0] n (W0 dy) g P := Runs.of rfl rfl deX6_levelLower (Nat.le_of_ble_eq_true rfl) (bX6_levelLower_0 hn h)
theorem lv6_68_tieLevel_5 : LkV miX6_tieLevel miX6_levelUpper 68 0 5 := ⟨⟨⟨tbG_in (List.mem_append_right _ (List.mem_of_getElem? (i := 739) (by decide +kernel))) rfl, tbG_in (List.mem_append_right _ (List.mem_of_getElem? (i := 14) (by decide +kernel))) rfl, tbG_in (List.mem_append_right _ (List.mem_of_getElem? (i := 762) (by decide +kernel))) rfl⟩, ⟨by decide +kernel, by decide +kernel, by decide +kernel⟩, by decide⟩, tbG_in (List.mem_append_right _ (List.mem_of_getElem? (i := 737) (by decide +kernel))) rfl, RX6, TX6, 16, rfl, tbG_in (List.mem_append_right _ (List.mem_of_getElem? (i := 738) (by decide +kernel))) rfl⟩
theorem lv6_72_tieLevel_5 : LkV miX6_tieLevel miX6_levelLower 72 0 5 := ⟨⟨⟨tbG_in (List.mem_append_right _ (List.mem_of_getElem? (i := 744) (by decide +kernel))) rfl, tbG_in (List.mem_append_right _ (List.mem_of_getElem? (i := 14) (by decide +kernel))) rfl, tbG_in (List.mem_append_right _ (List.mem_of_getElem? (i := 763) (by decide +kernel))) rfl⟩, ⟨by decide +kernel, by decide +kernel, by decide +kernel⟩, by decide⟩, tbG_in (List.mem_append_right _ (List.mem_of_getElem? (i := 742) (by decide +kernel))) rfl, RX6, TX6, 16, rfl, tbG_in (List.mem_append_right _ (List.mem_of_getElem? (i := 743) (by decide +kernel))) rfl⟩
set_option maxHeartbeats 8000000 in
set_option maxRecDepth 4000 in
theorem bX6_tieLevel_0 {d n : Nat} {dy : Nat → Shp} {g : Hp} {P : Pst} {r0 : Nat} (hn : 100 ≤ n) (h : (Ob n (W0 dy) r0 5) ∧ Runs miX6_levelUpper d [.ref r0] n (W0 dy) g (fun v n' S' g' => V miX6_tieLevel (d + 1) 5 [(0, .ref r0)] (v.toList ++ [.ref r0]) n' S' g' 0 0 P)) : V miX6_tieLevel (d + 1) 0 [(0, .ref r0)] [] n (W0 dy) g 0 0 P := by
  refine v_aload_n 0 0 rfl rfl rfl ?_
  refine v_aload_n 1 0 rfl rfl rfl ?_
  have c1 := h.1
  have h := h.2
  refine v_callV (st := [.ref r0]) [] 2 rfl lv6_68_tieLevel_5 c1.1 c1.2.1 (by decide) rfl (Nat.le_refl _) (Nat.le_refl _) ?_
  exact h
set_option maxHeartbeats 8000000 in
set_option maxRecDepth 4000 in
theorem bX6_tieLevel_5 {d n : Nat} {dy : Nat → Shp} {g : Hp} {P : Pst} {r0 : Nat} {rs0 : Nat} {xs1 : Int} (hn : 100 ≤ n) (h : (Ob n (W0 dy) rs0 5) ∧ (i3 xs1) ∧ (Ob n (W0 dy) r0 5) ∧ Runs miX6_levelLower d [.ref r0] n (W0 dy) (up2 g rs0 12 xs1) (fun v n' S' g' => V miX6_tieLevel (d + 1) 13 [(0, .ref r0)] (v.toList ++ [.ref r0]) n' S' g' 0 0 P)) : V miX6_tieLevel (d + 1) 5 [(0, .ref r0)] [I_ xs1, .ref rs0] n (W0 dy) g 0 0 P := by
  have c1 := h.1
  have h := h.2
  have c2 := h.1
  have h := h.2
  refine v_putI 3 rfl fl6_9_5 c1.1 c1.2.1 (by decide) rfl (c1.2.2 12) c2 ?_
  refine v_aload_n 4 0 rfl rfl rfl ?_
  refine v_aload_n 5 0 rfl rfl rfl ?_
  have c3 := h.1
  have h := h.2
  refine v_callV (st := [.ref r0]) [] 6 rfl lv6_72_tieLevel_5 c3.1 c3.2.1 (by decide) rfl (Nat.le_refl _) (Nat.le_refl _) ?_
  exact h
set_option maxHeartbeats 8000000 in
set_option maxRecDepth 4000 in
theorem bX6_tieLevel_13 {d n : Nat} {dy : Nat → Shp} {g : Hp} {P : Pst} {r0 : Nat} {rs0 : Nat} {xs1 : Int} (hn : 100 ≤ n) (h : (Ob n (W0 dy) rs0 5) ∧ (i3 xs1) ∧ P none n (W0 dy) (up2 g rs0 13 xs1)) : V miX6_tieLevel (d + 1) 13 [(0, .ref r0)] [I_ xs1, .ref rs0] n (W0 dy) g 0 0 P := by
  have c1 := h.1
  have h := h.2
  have c2 := h.1
  have h := h.2
  refine v_putI 7 rfl fl6_15_5 c1.1 c1.2.1 (by decide) rfl (c1.2.2 13) c2 ?_
  exact v_ret (v := none) 8 rfl (Nat.zero_le _) (Nat.zero_le _) trivial rfl h
theorem wX6_tieLevel {d n : Nat} {dy : Nat → Shp} {g : Hp} {P : Pst} {r0 : Nat} (hn : 100 ≤ n) (h : (Ob n (W0 dy) r0 5) ∧ Runs miX6_levelUpper d [.ref r0] n (W0 dy) g (fun v n' S' g' => V miX6_tieLevel (d + 1) 5 [(0, .ref r0)] (v.toList ++ [.ref r0]) n' S' g' 0 0 P)) : Runs miX6_tieLevel (d + 1) [.ref r0] n (W0 dy) g P := Runs.of rfl rfl deX6_tieLevel (Nat.le_of_ble_eq_true rfl) (bX6_tieLevel_0 hn h)
theorem fl7_7_6 : FL RX7 7 6 0 false .int := ⟨RX7, TX7, 3, "MobileMaker$Span", rfl, rfl, by decide, kf6, tbG_in (List.mem_append_right _ (List.mem_of_getElem? (i := 76) (by decide +kernel))) rfl, Or.inl rfl, rfl, by decide +kernel, ⟨tyX7, tyX7_ok⟩, nmX7, fun h => by cases h⟩
theorem fl7_13_6 : FL RX7 13 6 1 false .int := ⟨RX7, TX7, 3, "MobileMaker$Span", rfl, rfl, by decide, kf6, tbG_in (List.mem_append_right _ (List.mem_of_getElem? (i := 78) (by decide +kernel))) rfl, Or.inl rfl, rfl, by decide +kernel, ⟨tyX7, tyX7_ok⟩, nmX7, fun h => by cases h⟩
theorem fl7_16_6 : FL RX7 16 6 2 false .boolean := ⟨RX7, TX7, 3, "MobileMaker$Span", rfl, rfl, by decide, kf6, tbG_in (List.mem_append_right _ (List.mem_of_getElem? (i := 79) (by decide +kernel))) rfl, Or.inl rfl, rfl, by decide +kernel, ⟨tyX7, tyX7_ok⟩, nmX7, fun h => by cases h⟩
theorem fl7_20_3 : FL RX7 20 3 4 false .int := ⟨RX4, TX4, 14, "MobileMaker$Part", rfl, rfl, by decide, kf3, tbG_in (List.mem_append_right _ (List.mem_of_getElem? (i := 372) (by decide +kernel))) rfl, Or.inl rfl, rfl, by decide +kernel, ⟨tyX4, tyX4_ok⟩, nmX4, fun h => by cases h⟩
theorem fl7_20_5 : FL RX7 20 5 4 false .int := ⟨RX6, TX6, 16, "MobileMaker$Part", rfl, rfl, by decide, kf5, tbG_in (List.mem_append_right _ (List.mem_of_getElem? (i := 372) (by decide +kernel))) rfl, Or.inl rfl, rfl, by decide +kernel, ⟨tyX6, tyX6_ok⟩, nmX6, fun h => by cases h⟩
theorem fl7_20_9 : FL RX7 20 9 4 false .int := ⟨RX10, TX10, 10, "MobileMaker$Part", rfl, rfl, by decide, kf9, tbG_in (List.mem_append_right _ (List.mem_of_getElem? (i := 372) (by decide +kernel))) rfl, Or.inl rfl, rfl, by decide +kernel, ⟨tyX10, tyX10_ok⟩, nmX10, fun h => by cases h⟩
theorem fl7_25_3 : FL RX7 25 3 3 false (.object "MobileMaker$Rod") := ⟨RX4, TX4, 14, "MobileMaker$Part", rfl, rfl, by decide, kf3, tbG_in (List.mem_append_right _ (List.mem_of_getElem? (i := 364) (by decide +kernel))) rfl, Or.inl rfl, rfl, by decide +kernel, ⟨tyX4, tyX4_ok⟩, nmX4, fun h => by cases h⟩
theorem fl7_25_5 : FL RX7 25 5 3 false (.object "MobileMaker$Rod") := ⟨RX6, TX6, 16, "MobileMaker$Part", rfl, rfl, by decide, kf5, tbG_in (List.mem_append_right _ (List.mem_of_getElem? (i := 364) (by decide +kernel))) rfl, Or.inl rfl, rfl, by decide +kernel, ⟨tyX6, tyX6_ok⟩, nmX6, fun h => by cases h⟩
theorem fl7_25_9 : FL RX7 25 9 3 false (.object "MobileMaker$Rod") := ⟨RX10, TX10, 10, "MobileMaker$Part", rfl, rfl, by decide, kf9, tbG_in (List.mem_append_right _ (List.mem_of_getElem? (i := 364) (by decide +kernel))) rfl, Or.inl rfl, rfl, by decide +kernel, ⟨tyX10, tyX10_ok⟩, nmX10, fun h => by cases h⟩
theorem lm7_35_measure : LkM miX7_measure 35 Lib.Math.max.name Lib.Math.max.code 2 .int := ⟨tbG_in (List.mem_append_right _ (List.mem_of_getElem? (i := 776) (by decide +kernel))) rfl, tbG_in (List.mem_append_right _ (List.mem_of_getElem? (i := 536) (by decide +kernel))) rfl, tbG_in (List.mem_append_right _ (List.mem_of_getElem? (i := 15) (by decide +kernel))) rfl, tbG_in (List.mem_append_right _ (List.mem_of_getElem? (i := 537) (by decide +kernel))) rfl⟩
theorem fl7_45_5 : FL RX7 45 5 4 false .int := ⟨RX6, TX6, 16, "MobileMaker$Rod", rfl, rfl, by decide, kf5, tbG_in (List.mem_append_right _ (List.mem_of_getElem? (i := 373) (by decide +kernel))) rfl, Or.inr (tbG_in (List.mem_append_right _ (List.mem_of_getElem? (i := 374) (by decide +kernel))) rfl), rfl, by decide +kernel, ⟨tyX6, tyX6_ok⟩, nmX6, fun h => by cases h⟩
theorem fl7_46_5 : FL RX7 46 5 3 false (.object "MobileMaker$Rod") := ⟨RX6, TX6, 16, "MobileMaker$Rod", rfl, rfl, by decide, kf5, tbG_in (List.mem_append_right _ (List.mem_of_getElem? (i := 365) (by decide +kernel))) rfl, Or.inr (tbG_in (List.mem_append_right _ (List.mem_of_getElem? (i := 366) (by decide +kernel))) rfl), rfl, by decide +kernel, ⟨tyX6, tyX6_ok⟩, nmX6, fun h => by cases h⟩
theorem lv7_29_measure_5 : LkV miX7_measure miX6_arm 29 1 5 := ⟨⟨⟨tbG_in (List.mem_append_right _ (List.mem_of_getElem? (i := 775) (by decide +kernel))) rfl, tbG_in (List.mem_append_right _ (List.mem_of_getElem? (i := 14) (by decide +kernel))) rfl, tbG_in (List.mem_append_right _ (List.mem_of_getElem? (i := 772) (by decide +kernel))) rfl⟩, ⟨by decide +kernel, by decide +kernel, by decide +kernel⟩, by decide⟩, tbG_in (List.mem_append_right _ (List.mem_of_getElem? (i := 773) (by decide +kernel))) rfl, RX6, TX6, 16, rfl, tbG_in (List.mem_append_right _ (List.mem_of_getElem? (i := 774) (by decide +kernel))) rfl⟩
theorem lv7_41_measure_5 : LkV miX7_measure miX6_hasWholeArms 41 0 5 := ⟨⟨⟨tbG_in (List.mem_append_right _ (List.mem_of_getElem? (i := 780) (by decide +kernel))) rfl, tbG_in (List.mem_append_right _ (List.mem_of_getElem? (i := 14) (by decide +kernel))) rfl, tbG_in (List.mem_append_right _ (List.mem_of_getElem? (i := 777) (by decide +kernel))) rfl⟩, ⟨by decide +kernel, by decide +kernel, by decide +kernel⟩, by decide⟩, tbG_in (List.mem_append_right _ (List.mem_of_getElem? (i := 778) (by decide +kernel))) rfl, RX6, TX6, 16, rfl, tbG_in (List.mem_append_right _ (List.mem_of_getElem? (i := 779) (by decide +kernel))) rfl⟩
set_option maxHeartbeats 8000000 in
set_option maxRecDepth 4000 in
theorem bX7_measure_0 {d n : Nat} {dy : Nat → Shp} {g : Hp} {P : Pst} {r0 : Nat} {r1 : Nat} {r2 : Nat} (hn : 100 ≤ n) (h : (Ob n (W0 dy) r0 6) ∧ (Pt n (W0 dy) r1) ∧ V miX7_measure (d + 1) 26 [(0, .ref r0), (1, .ref r1), (2, .ref r2), (3, I_ (g r1 4)), (4, .ref ((g r1 3).toNat))] [] n (W0 dy) (up2 (up2 (up2 g r0 0 0) r0 1 0) r0 2 1) 0 0 P) : V miX7_measure (d + 1) 0 [(0, .ref r0), (1, .ref r1), (2, .ref r2)] [] n (W0 dy) g 0 0 P := by
  refine v_aload_n 0 0 rfl rfl rfl ?_
  refine v_iconst 1 rfl ?_
  have c1 := h.1
  have h := h.2
  refine v_putI 2 rfl fl7_7_6 c1.1 c1.2.1 (by decide) rfl (c1.2.2 0) (by decide) ?_
  refine v_aload_n 3 0 rfl rfl rfl ?_
  refine v_iconst 4 rfl ?_
  refine v_putI 5 rfl fl7_13_6 c1.1 c1.2.1 (by decide) rfl (c1.2.2 1) (by decide) ?_
  refine v_aload_n 6 0 rfl rfl rfl ?_
  refine v_iconst 7 rfl ?_
  refine v_putZ 8 rfl fl7_16_6 c1.1 c1.2.1 (by decide) rfl (c1.2.2 2) (Or.inr rfl) ?_
  refine v_aload_n 9 1 rfl rfl rfl ?_
  have c2 := h.1
  have h := h.2
  refine v_pI 10 rfl ⟨fl7_20_3.r, fl7_20_5.r, fl7_20_9.r⟩ c2 ⟨rfl, rfl, rfl⟩ (x := g r1 4) (((up2_q (by decide)).trans (up2_q (by decide))).trans (up2_q (by decide))) ?_
  refine v_rng fun w3 => ?_
  have p4 : i3 (g r1 4) := rPI w3 (q := 4) c2 rfl rfl rfl (((up2_q (by decide)).trans (up2_q (by decide))).trans (up2_q (by decide)))
  refine v_istore_n 11 [1, 2, 3, 0] rfl rfl (by decide) rfl ?_
  refine v_aload_n 12 1 rfl rfl rfl ?_
  refine v_pR 13 rfl ⟨fl7_25_3.r, fl7_25_5.r, fl7_25_9.r⟩ c2 ⟨rfl, rfl, rfl⟩ (x := g r1 3) (((up2_q (by decide)).trans (up2_q (by decide))).trans (up2_q (by decide))) ?_
  refine v_astore 14 [1, 2, 3, 4, 0] rfl (by decide) rfl ?_
  exact h
set_option maxHeartbeats 8000000 in
set_option maxRecDepth 4000 in
theorem bX7_measure_26 {d n : Nat} {dy : Nat → Shp} {g : Hp} {P : Pst} {r0 : Nat} {r1 : Nat} {r2 : Nat} {x3 : Int} {r4 : Nat} (hn : 100 ≤ n) (h : ((r4 = 0) → P none n (W0 dy) g) ∧ ((0 < r4) → ((r4 = r2) → P none n (W0 dy) g) ∧ ((r4 ≠ r2) → (Ob n (W0 dy) r4 5) ∧ Runs miX6_arm d [.ref r4, I_ x3] n (W0 dy) g (fun v n' S' g' => V miX7_measure (d + 1) 43 [(0, .ref r0), (1, .ref r1), (2, .ref r2), (3, I_ x3), (4, .ref r4)] (v.toList ++ []) n' S' g' 0 0 P)))) : V miX7_measure (d + 1) 26 [(0, .ref r0), (1, .ref r1), (2, .ref r2), (3, I_ x3), (4, .ref r4)] [] n (W0 dy) g 0 0 P := by
  refine v_aload 15 4 rfl rfl ?_
  refine v_ifnull 16 rfl (tgt := 109) rfl (fun q1 => ?_) (fun q1 => ?_)
  · have h := h.1 q1
    exact v_ret (v := none) 54 rfl (Nat.zero_le _) (Nat.zero_le _) trivial rfl h
  · have h := h.2 q1
    refine v_aload 17 4 rfl rfl ?_
    refine v_aload_n 18 2 rfl rfl rfl ?_
    refine v_acmp_eq 19 rfl (tgt := 109) rfl (fun q2 => ?_) (fun q2 => ?_)
    · have h := h.1 q2
      exact v_ret (v := none) 54 rfl (Nat.zero_le _) (Nat.zero_le _) trivial rfl h
    · have h := h.2 q2
      refine v_aload 20 4 rfl rfl ?_
      refine v_iload_n 21 3 rfl rfl rfl ?_
      have c3 := h.1
      have h := h.2
      refine v_callV (st := []) [I_ x3] 22 rfl lv7_29_measure_5 c3.1 c3.2.1 (by decide) rfl (Nat.le_refl _) (Nat.le_refl _) ?_
      exact h
set_option maxHeartbeats 8000000 in
set_option maxRecDepth 4000 in
theorem bX7_measure_43 {d n : Nat} {dy : Nat → Shp} {g : Hp} {P : Pst} {r0 : Nat} {r1 : Nat} {r2 : Nat} {x3 : Int} {r4 : Nat} {xs0 : Int} (hn : 100 ≤ n) (h : (Ob n (W0 dy) r0 6) ∧ (i3 ((g r0 0) + xs0)) ∧ (i3 xs0) ∧ (((g r0 2) = 0) → (Ob n (W0 dy) r4 5) ∧ V miX7_measure (d + 1) 26 [(0, .ref r0), (1, .ref r1), (2, .ref r2), (3, I_ (g r4 4)), (4, .ref ((g r4 3).toNat))] [] n (W0 dy) (up2 (up2 (up2 g r0 0 ((g r0 0) + xs0)) r0 1 (max (g r0 1) xs0)) r0 2 0) 0 0 P) ∧ (((g r0 2) ≠ 0) → (Ob n (W0 dy) r4 5) ∧ Runs miX6_hasWholeArms d [.ref r4] n (W0 dy) (up2 (up2 g r0 0 ((g r0 0) + xs0)) r0 1 (max (g r0 1) xs0)) (fun v n' S' g' => V miX7_measure (d + 1) 82 [(0, .ref r0), (1, .ref r1), (2, .ref r2), (3, I_ x3), (4, .ref r4), (5, I_ xs0)] (v.toList ++ [.ref r0]) n' S' g' 0 0 P))) : V miX7_measure (d + 1) 43 [(0, .ref r0), (1, .ref r1), (2, .ref r2), (3, I_ x3), (4, .ref r4)] [I_ xs0] n (W0 dy) g 0 0 P := by
  refine v_istore 23 [1, 2, 3, 4, 5, 0] rfl (by decide) rfl ?_
  refine v_aload_n 24 0 rfl rfl rfl ?_
  refine v_dup 25 rfl (by intro h; cases h) ?_
  have c1 := h.1
  have h := h.2
  refine v_gI 26 rfl fl7_7_6.r c1.1 c1.2.1 (by decide) rfl (c1.2.2 0) (x := g r0 0) rfl ?_
  refine v_rng fun w2 => ?_
  have p3 : i3 (g r0 0) := rI w2 (q := 0) c1.1 c1.2.1 rfl rfl
  refine v_iload 27 5 rfl rfl ?_
  refine v_iadd 28 rfl ?_
  have c4 := h.1
  have h := h.2
  refine v_putI 29 rfl fl7_7_6 c1.1 c1.2.1 (by decide) rfl (c1.2.2 0) c4 ?_
  refine v_aload_n 30 0 rfl rfl rfl ?_
  refine v_aload_n 31 0 rfl rfl rfl ?_
  refine v_gI 32 rfl fl7_13_6.r c1.1 c1.2.1 (by decide) rfl (c1.2.2 1) (x := g r0 1) (up2_q (by decide)) ?_
  refine v_rng fun w5 => ?_
  have p6 : i3 (g r0 1) := rI w5 (q := 1) c1.1 c1.2.1 rfl (up2_q (by decide))
  refine v_iload 33 5 rfl rfl ?_
  have c7 := h.1
  have h := h.2
  refine v_mmax (st := [.ref r0]) 34 rfl lm7_35_measure rfl (Nat.zero_le _) (Nat.zero_le _) p6 c7 ?_
  refine v_putI 35 rfl fl7_13_6 c1.1 c1.2.1 (by decide) rfl (c1.2.2 1) (max_i3 p6 c7) ?_
  refine v_aload_n 36 0 rfl rfl rfl ?_
  refine v_aload_n 37 0 rfl rfl rfl ?_
  refine v_gI 38 rfl fl7_16_6.r c1.1 c1.2.1 (by decide) rfl (c1.2.2 2) (x := g r0 2) ((up2_q (by decide)).trans (up2_q (by decide))) ?_
  refine v_rng fun w8 => ?_
  have p9 : i3 (g r0 2) := rI w8 (q := 2) c1.1 c1.2.1 rfl ((up2_q (by decide)).trans (up2_q (by decide)))
  refine v_if_eq 39 rfl (tgt := 89) rfl p9 (fun q10 => ?_) (fun q10 => ?_)
  · have h := h.1 q10
    refine v_iconst 45 rfl ?_
    refine v_putZ 46 rfl fl7_16_6 c1.1 c1.2.1 (by decide) rfl (c1.2.2 2) (Or.inl rfl) ?_
    refine v_aload 47 4 rfl rfl ?_
    have c11 := h.1
    have h := h.2
    refine v_gI 48 rfl fl7_45_5.r c11.1 c11.2.1 (by decide) rfl (c11.2.2 4) (x := g r4 4) (((up2_q (by decide)).trans (up2_q (by decide))).trans (up2_q (by decide))) ?_
    refine v_rng fun w12 => ?_
    have p13 : i3 (g r4 4) := rI w12 (q := 4) c11.1 c11.2.1 rfl (((up2_q (by decide)).trans (up2_q (by decide))).trans (up2_q (by decide)))
    refine v_istore_n 49 [1, 2, 3, 0, 4, 5] rfl rfl (by decide) rfl ?_
    refine v_aload 50 4 rfl rfl ?_
    refine v_gR 51 rfl fl7_46_5.r c11.1 c11.2.1 (by decide) rfl (c11.2.2 3) (x := g r4 3) (((up2_q (by decide)).trans (up2_q (by decide))).trans (up2_q (by decide))) ?_
    refine v_astore 52 [1, 2, 3, 4, 0, 5] rfl (by decide) rfl ?_
    refine v_goto 53 rfl (tgt := 26) rfl ?_
    refine v_loc [0, 1, 2, 3, 4] rfl ?_
    exact h
  · have h := h.2 q10
    refine v_aload 40 4 rfl rfl ?_
    have c14 := h.1
    have h := h.2
    refine v_callV (st := [.ref r0]) [] 41 rfl lv7_41_measure_5 c14.1 c14.2.1 (by decide) rfl (Nat.le_refl _) (Nat.le_refl _) ?_
    exact h
set_option maxHeartbeats 8000000 in
set_option maxRecDepth 4000 in
theorem bX7_measure_82 {d n : Nat} {dy : Nat → Shp} {g : Hp} {P : Pst} {r0 : Nat} {r1 : Nat} {r2 : Nat} {x3 : Int} {r4 : Nat} {x5 : Int} {rs0 : Nat} {xs1 : Int} (hn : 100 ≤ n) (h : (i3 xs1) ∧ ((xs1 = 0) → (Ob n (W0 dy) rs0 6) ∧ (Ob n (W0 dy) r4 5) ∧ V miX7_measure (d + 1) 26 [(0, .ref r0), (1, .ref r1), (2, .ref r2), (3, I_ (g r4 4)), (4, .ref ((g r4 3).toNat))] [] n (W0 dy) (up2 g rs0 2 0) 0 0 P) ∧ ((xs1 ≠ 0) → (Ob n (W0 dy) rs0 6) ∧ (Ob n (W0 dy) r4 5) ∧ V miX7_measure (d + 1) 26 [(0, .ref r0), (1, .ref r1), (2, .ref r2), (3, I_ (g r4 4)), (4, .ref ((g r4 3).toNat))] [] n (W0 dy) (up2 g rs0 2 1) 0 0 P)) : V miX7_measure (d + 1) 82 [(0, .ref r0), (1, .ref r1), (2, .ref r2), (3, I_ x3), (4, .ref r4), (5, I_ x5)] [I_ xs1, .ref rs0] n (W0 dy) g 0 0 P := by
  have c1 := h.1
  have h := h.2
  refine v_if_eq 42 rfl (tgt := 89) rfl c1 (fun q2 => ?_) (fun q2 => ?_)
  · have h := h.1 q2
    refine v_iconst 45 rfl ?_
    have c3 := h.1
    have h := h.2
    refine v_putZ 46 rfl fl7_16_6 c3.1 c3.2.1 (by decide) rfl (c3.2.2 2) (Or.inl rfl) ?_
    refine v_aload 47 4 rfl rfl ?_
    have c4 := h.1
    have h := h.2
    refine v_gI 48 rfl fl7_45_5.r c4.1 c4.2.1 (by decide) rfl (c4.2.2 4) (x := g r4 4) (up2_q (by decide)) ?_
    refine v_rng fun w5 => ?_
    have p6 : i3 (g r4 4) := rI w5 (q := 4) c4.1 c4.2.1 rfl (up2_q (by decide))
    refine v_istore_n 49 [1, 2, 3, 0, 4, 5] rfl rfl (by decide) rfl ?_
    refine v_aload 50 4 rfl rfl ?_
    refine v_gR 51 rfl fl7_46_5.r c4.1 c4.2.1 (by decide) rfl (c4.2.2 3) (x := g r4 3) (up2_q (by decide)) ?_
    refine v_astore 52 [1, 2, 3, 4, 0, 5] rfl (by decide) rfl ?_
    refine v_goto 53 rfl (tgt := 26) rfl ?_
    refine v_loc [0, 1, 2, 3, 4] rfl ?_
    exact h
  · have h := h.2 q2
    refine v_iconst 43 rfl ?_
    refine v_goto 44 rfl (tgt := 90) rfl ?_
    have c7 := h.1
    have h := h.2
    refine v_putZ 46 rfl fl7_16_6 c7.1 c7.2.1 (by decide) rfl (c7.2.2 2) (Or.inr rfl) ?_
    refine v_aload 47 4 rfl rfl ?_
    have c8 := h.1
    have h := h.2
    refine v_gI 48 rfl fl7_45_5.r c8.1 c8.2.1 (by decide) rfl (c8.2.2 4) (x := g r4 4) (up2_q (by decide)) ?_
    refine v_rng fun w9 => ?_
    have p10 : i3 (g r4 4) := rI w9 (q := 4) c8.1 c8.2.1 rfl (up2_q (by decide))
    refine v_istore_n 49 [1, 2, 3, 0, 4, 5] rfl rfl (by decide) rfl ?_
    refine v_aload 50 4 rfl rfl ?_
    refine v_gR 51 rfl fl7_46_5.r c8.1 c8.2.1 (by decide) rfl (c8.2.2 3) (x := g r4 3) (up2_q (by decide)) ?_
    refine v_astore 52 [1, 2, 3, 4, 0, 5] rfl (by decide) rfl ?_
    refine v_goto 53 rfl (tgt := 26) rfl ?_
    refine v_loc [0, 1, 2, 3, 4] rfl ?_
    exact h
theorem wX7_measure {d n : Nat} {dy : Nat → Shp} {g : Hp} {P : Pst} {r0 : Nat} {r1 : Nat} {r2 : Nat} (hn : 100 ≤ n) (h : (Ob n (W0 dy) r0 6) ∧ (Pt n (W0 dy) r1) ∧ V miX7_measure (d + 1) 26 [(0, .ref r0), (1, .ref r1), (2, .ref r2), (3, I_ (g r1 4)), (4, .ref ((g r1 3).toNat))] [] n (W0 dy) (up2 (up2 (up2 g r0 0 0) r0 1 0) r0 2 1) 0 0 P) : Runs miX7_measure (d + 1) [.ref r0, .ref r1, .ref r2] n (W0 dy) g P := Runs.of rfl rfl deX7_measure (Nat.le_of_ble_eq_true rfl) (bX7_measure_0 hn h)
theorem lm7_35_least : LkM miX7_least 35 Lib.Math.max.name Lib.Math.max.code 2 .int := ⟨tbG_in (List.mem_append_right _ (List.mem_of_getElem? (i := 776) (by decide +kernel))) rfl, tbG_in (List.mem_append_right _ (List.mem_of_getElem? (i := 536) (by decide +kernel))) rfl, tbG_in (List.mem_append_right _ (List.mem_of_getElem? (i := 15) (by decide +kernel))) rfl, tbG_in (List.mem_append_right _ (List.mem_of_getElem? (i := 537) (by decide +kernel))) rfl⟩
set_option maxHeartbeats 8000000 in
set_option maxRecDepth 4000 in
theorem bX7_least_0 {d n : Nat} {dy : Nat → Shp} {g : Hp} {P : Pst} {r0 : Nat} (hn : 100 ≤ n) (h : (Ob n (W0 dy) r0 6) ∧ (i3 ((2 * (g r0 1)) - (g r0 0))) ∧ P (some (I_ (max 0 ((2 * (g r0 1)) - (g r0 0))))) n (W0 dy) g) : V miX7_least (d + 1) 0 [(0, .ref r0)] [] n (W0 dy) g 0 0 P := by
  refine v_iconst 0 rfl ?_
  refine v_iconst 1 rfl ?_
  refine v_aload_n 2 0 rfl rfl rfl ?_
  have c1 := h.1
  have h := h.2
  refine v_gI 3 rfl fl7_13_6.r c1.1 c1.2.1 (by decide) rfl (c1.2.2 1) (x := g r0 1) rfl ?_
  refine v_rng fun w2 => ?_
  have p3 : i3 (g r0 1) := rI w2 (q := 1) c1.1 c1.2.1 rfl rfl
  refine v_imul 4 rfl ?_
  refine v_aload_n 5 0 rfl rfl rfl ?_
  refine v_gI 6 rfl fl7_7_6.r c1.1 c1.2.1 (by decide) rfl (c1.2.2 0) (x := g r0 0) rfl ?_
  refine v_rng fun w4 => ?_
  have p5 : i3 (g r0 0) := rI w4 (q := 0) c1.1 c1.2.1 rfl rfl
  refine v_isub 7 rfl ?_
  have c6 := h.1
  have h := h.2
  refine v_mmax (st := []) 8 rfl lm7_35_least rfl (Nat.zero_le _) (Nat.zero_le _) (by decide) c6 ?_
  exact v_ret (v := some (I_ (max 0 ((2 * (g r0 1)) - (g r0 0))))) 9 rfl (Nat.zero_le _) (Nat.zero_le _) trivial rfl h
theorem wX7_least {d n : Nat} {dy : Nat → Shp} {g : Hp} {P : Pst} {r0 : Nat} (hn : 100 ≤ n) (h : (Ob n (W0 dy) r0 6) ∧ (i3 ((2 * (g r0 1)) - (g r0 0))) ∧ P (some (I_ (max 0 ((2 * (g r0 1)) - (g r0 0))))) n (W0 dy) g) : Runs miX7_least (d + 1) [.ref r0] n (W0 dy) g P := Runs.of rfl rfl deX7_least (Nat.le_of_ble_eq_true rfl) (bX7_least_0 hn h)
theorem fl8_15_7 : FL RX8 15 7 1 false .int := ⟨RX8, TX8, 5, "MobileMaker$Text", rfl, rfl, by decide, kf7, tbG_in (List.mem_append_right _ (List.mem_of_getElem? (i := 181) (by decide +kernel))) rfl, Or.inl rfl, rfl, by decide +kernel, ⟨tyX8, tyX8_ok⟩, nmX8, fun h => by cases h⟩
theorem fl8_9_7 : FL RX8 9 7 0 true (.array .byte) := ⟨RX8, TX8, 5, "MobileMaker$Text", rfl, rfl, by decide, kf7, tbG_in (List.mem_append_right _ (List.mem_of_getElem? (i := 180) (by decide +kernel))) rfl, Or.inl rfl, rfl, by decide +kernel, ⟨tyX8, tyX8_ok⟩, nmX8, fun _ => rfl⟩
set_option maxHeartbeats 8000000 in
set_option maxRecDepth 4000 in
theorem bX8_has_0 {d n : Nat} {dy : Nat → Shp} {g : Hp} {P : Pst} {x1 : Int} (hn : 100 ≤ n) (h : (i3 x1) ∧ ((x1 < 0) → P (some (I_ 0)) n (W0 dy) g) ∧ ((0 ≤ x1) → (((g 37 1) ≤ x1) → P (some (I_ 0)) n (W0 dy) g) ∧ ((x1 < (g 37 1)) → ((600 ≤ x1) → P (some (I_ 0)) n (W0 dy) g) ∧ ((x1 < 600) → P (some (I_ 1)) n (W0 dy) g)))) : V miX8_has d 0 [(0, .ref 37), (1, I_ x1)] [] n (W0 dy) g 0 0 P := by
  refine v_iload_n 0 1 rfl rfl rfl ?_
  have c1 := h.1
  have h := h.2
  refine v_if_lt 1 rfl (tgt := 25) rfl c1 (fun q2 => ?_) (fun q2 => ?_)
  · have h := h.1 q2
    refine v_iconst 13 rfl ?_
    exact v_ret (v := some (I_ 0)) 14 rfl (Nat.zero_le _) (Nat.zero_le _) (Or.inl rfl) rfl h
  · have h := h.2 q2
    refine v_iload_n 2 1 rfl rfl rfl ?_
    refine v_aload_n 3 0 rfl rfl rfl ?_
    refine v_gI 4 rfl fl8_15_7.r (al 37 rfl hn) (wk37 dy) (by decide) rfl (wc37_1 dy) (x := g 37 1) rfl ?_
    refine v_rng fun w3 => ?_
    have p4 : i3 (g 37 1) := rI w3 (q := 1) (al 37 rfl hn) (wk37 dy) rfl rfl
    refine v_icmp_ge 5 rfl (tgt := 25) rfl c1 p4 (fun q5 => ?_) (fun q5 => ?_)
    · have h := h.1 q5
      refine v_iconst 13 rfl ?_
      exact v_ret (v := some (I_ 0)) 14 rfl (Nat.zero_le _) (Nat.zero_le _) (Or.inl rfl) rfl h
    · have h := h.2 q5
      refine v_iload_n 6 1 rfl rfl rfl ?_
      refine v_aload_n 7 0 rfl rfl rfl ?_
      refine v_gK 8 rfl fl8_9_7.r (al 37 rfl hn) (wk37 dy) (by decide) rfl (r := 38) (wc37_0 dy) ?_
      refine v_alen (N := 600) (t := 12) 9 rfl (al 38 rfl hn) (wk38 dy) (by decide) (fun _ => rfl) (wn38 dy) ?_
      refine v_icmp_ge 10 rfl (tgt := 25) rfl c1 (by decide) (fun q6 => ?_) (fun q6 => ?_)
      · have h := h.1 q6
        refine v_iconst 13 rfl ?_
        exact v_ret (v := some (I_ 0)) 14 rfl (Nat.zero_le _) (Nat.zero_le _) (Or.inl rfl) rfl h
      · have h := h.2 q6
        refine v_iconst 11 rfl ?_
        refine v_goto 12 rfl (tgt := 26) rfl ?_
        exact v_ret (v := some (I_ 1)) 14 rfl (Nat.zero_le _) (Nat.zero_le _) (Or.inr rfl) rfl h
theorem wX8_has {d n : Nat} {dy : Nat → Shp} {g : Hp} {P : Pst} {x1 : Int} (hn : 100 ≤ n) (h : (i3 x1) ∧ ((x1 < 0) → P (some (I_ 0)) n (W0 dy) g) ∧ ((0 ≤ x1) → (((g 37 1) ≤ x1) → P (some (I_ 0)) n (W0 dy) g) ∧ ((x1 < (g 37 1)) → ((600 ≤ x1) → P (some (I_ 0)) n (W0 dy) g) ∧ ((x1 < 600) → P (some (I_ 1)) n (W0 dy) g)))) : Runs miX8_has d [.ref 37, I_ x1] n (W0 dy) g P := Runs.of rfl rfl deX8_has (Nat.le_of_ble_eq_true rfl) (bX8_has_0 hn h)
theorem lv8_32_at_7 : LkV miX8_at miX8_has 32 1 7 := ⟨⟨⟨tbG_in (List.mem_append_right _ (List.mem_of_getElem? (i := 1050) (by decide +kernel))) rfl, tbG_in (List.mem_append_right _ (List.mem_of_getElem? (i := 7) (by decide +kernel))) rfl, tbG_in (List.mem_append_right _ (List.mem_of_getElem? (i := 1120) (by decide +kernel))) rfl⟩, ⟨by decide +kernel, by decide +kernel, by decide +kernel⟩, by decide⟩, tbG_in (List.mem_append_right _ (List.mem_of_getElem? (i := 1048) (by decide +kernel))) rfl, RX8, TX8, 5, rfl, tbG_in (List.mem_append_right _ (List.mem_of_getElem? (i := 1049) (by decide +kernel))) rfl⟩
set_option maxHeartbeats 8000000 in
set_option maxRecDepth 4000 in
theorem bX8_at_0 {d n : Nat} {dy : Nat → Shp} {g : Hp} {P : Pst} {x1 : Int} (hn : 100 ≤ n) (h : Runs miX8_has d [.ref 37, I_ x1] n (W0 dy) g (fun v n' S' g' => V miX8_at (d + 1) 5 [(0, .ref 37), (1, I_ x1)] (v.toList ++ []) n' S' g' 0 0 P)) : V miX8_at (d + 1) 0 [(0, .ref 37), (1, I_ x1)] [] n (W0 dy) g 0 0 P := by
  refine v_aload_n 0 0 rfl rfl rfl ?_
  refine v_iload_n 1 1 rfl rfl rfl ?_
  refine v_callV (st := []) [I_ x1] 2 rfl lv8_32_at_7 (al 37 rfl hn) (wk37 dy) (by decide) rfl (Nat.le_refl _) (Nat.le_refl _) ?_
  exact h
set_option maxHeartbeats 8000000 in
set_option maxRecDepth 4000 in
theorem bX8_at_5 {d n : Nat} {dy : Nat → Shp} {g : Hp} {P : Pst} {x1 : Int} {xs0 : Int} (hn : 100 ≤ n) (h : (i3 xs0) ∧ ((xs0 = 0) → P (some (I_ ((-1)))) n (W0 dy) g) ∧ ((xs0 ≠ 0) → (0 ≤ x1 ∧ x1 < 600) ∧ P (some (I_ (g 38 x1.toNat))) n (W0 dy) g)) : V miX8_at (d + 1) 5 [(0, .ref 37), (1, I_ x1)] [I_ xs0] n (W0 dy) g 0 0 P := by
  have c1 := h.1
  have h := h.2
  refine v_if_eq 3 rfl (tgt := 17) rfl c1 (fun q2 => ?_) (fun q2 => ?_)
  · have h := h.1 q2
    refine v_iconst 9 rfl ?_
    exact v_ret (v := some (I_ ((-1)))) 10 rfl (Nat.zero_le _) (Nat.zero_le _) trivial rfl h
  · have h := h.2 q2
    refine v_aload_n 4 0 rfl rfl rfl ?_
    refine v_gK 5 rfl fl8_9_7.r (al 37 rfl hn) (wk37 dy) (by decide) rfl (r := 38) (wc37_0 dy) ?_
    refine v_iload_n 6 1 rfl rfl rfl ?_
    have c3 := h.1
    have h := h.2
    refine v_ba (N := 600) 7 rfl (al 38 rfl hn) (wk38 dy) (wn38 dy) (by decide) c3 (y := g 38 x1.toNat) rfl ?_
    refine v_rng fun w4 => ?_
    have p5 : i3 (g 38 x1.toNat) := rI w4 (q := x1.toNat) (al 38 rfl hn) (wk38 dy) rfl rfl
    refine v_goto 8 rfl (tgt := 18) rfl ?_
    exact v_ret (v := some (I_ (g 38 x1.toNat))) 10 rfl (Nat.zero_le _) (Nat.zero_le _) trivial rfl h
theorem wX8_at {d n : Nat} {dy : Nat → Shp} {g : Hp} {P : Pst} {x1 : Int} (hn : 100 ≤ n) (h : Runs miX8_has d [.ref 37, I_ x1] n (W0 dy) g (fun v n' S' g' => V miX8_at (d + 1) 5 [(0, .ref 37), (1, I_ x1)] (v.toList ++ []) n' S' g' 0 0 P)) : Runs miX8_at (d + 1) [.ref 37, I_ x1] n (W0 dy) g P := Runs.of rfl rfl deX8_at (Nat.le_of_ble_eq_true rfl) (bX8_at_0 hn h)
theorem fl8_29_7 : FL RX8 29 7 4 false .int := ⟨RX8, TX8, 5, "MobileMaker$Text", rfl, rfl, by decide, kf7, tbG_in (List.mem_append_right _ (List.mem_of_getElem? (i := 184) (by decide +kernel))) rfl, Or.inl rfl, rfl, by decide +kernel, ⟨tyX8, tyX8_ok⟩, nmX8, fun h => by cases h⟩
theorem lv8_36_tell_7 : LkV miX8_tell miX8_tellPart 36 1 7 := ⟨⟨⟨tbG_in (List.mem_append_right _ (List.mem_of_getElem? (i := 1020) (by decide +kernel))) rfl, tbG_in (List.mem_append_right _ (List.mem_of_getElem? (i := 7) (by decide +kernel))) rfl, tbG_in (List.mem_append_right _ (List.mem_of_getElem? (i := 1017) (by decide +kernel))) rfl⟩, ⟨by decide +kernel, by decide +kernel, by decide +kernel⟩, by decide⟩, tbG_in (List.mem_append_right _ (List.mem_of_getElem? (i := 1019) (by decide +kernel))) rfl, RX8, TX8, 5, rfl, tbG_in (List.mem_append_left _ (List.mem_of_getElem? (i := 41) (by decide +kernel))) rfl⟩
theorem lv8_40_tell_7 : LkV miX8_tell miX8_goOnWith 40 1 7 := ⟨⟨⟨tbG_in (List.mem_append_right _ (List.mem_of_getElem? (i := 1034) (by decide +kernel))) rfl, tbG_in (List.mem_append_right _ (List.mem_of_getElem? (i := 7) (by decide +kernel))) rfl, tbG_in (List.mem_append_right _ (List.mem_of_getElem? (i := 1031) (by decide +kernel))) rfl⟩, ⟨by decide +kernel, by decide +kernel, by decide +kernel⟩, by decide⟩, tbG_in (List.mem_append_right _ (List.mem_of_getElem? (i := 1033) (by decide +kernel))) rfl, RX8, TX8, 5, rfl, tbG_in (List.mem_append_left _ (List.mem_of_getElem? (i := 44) (by decide +kernel))) rfl⟩
set_option maxHeartbeats 8000000 in
set_option maxRecDepth 4000 in
theorem bX8_tell_0 {d n : Nat} {dy : Nat → Shp} {g : Hp} {P : Pst} {r1 : Nat} (hn : 100 ≤ n) (h : Runs miX8_tellPart d [.ref 37, .ref r1] n (W0 dy) (up2 (up2 g 37 1 0) 37 4 0) (fun v n' S' g' => V miX8_tell (d + 1) 15 [(0, .ref 37), (1, .ref r1)] (v.toList ++ []) n' S' g' 0 0 P)) : V miX8_tell (d + 1) 0 [(0, .ref 37), (1, .ref r1)] [] n (W0 dy) g 0 0 P := by
  refine v_aload_n 0 0 rfl rfl rfl ?_
  refine v_iconst 1 rfl ?_
  refine v_putI 2 rfl fl8_15_7 (al 37 rfl hn) (wk37 dy) (by decide) rfl (wc37_1 dy) (by decide) ?_
  refine v_aload_n 3 0 rfl rfl rfl ?_
  refine v_iconst 4 rfl ?_
  refine v_putI 5 rfl fl8_29_7 (al 37 rfl hn) (wk37 dy) (by decide) rfl (wc37_4 dy) (by decide) ?_
  refine v_aload_n 6 0 rfl rfl rfl ?_
  refine v_aload_n 7 1 rfl rfl rfl ?_
  refine v_callV (st := []) [.ref r1] 8 rfl lv8_36_tell_7 (al 37 rfl hn) (wk37 dy) (by decide) rfl (Nat.le_refl _) (Nat.le_refl _) ?_
  exact h
set_option maxHeartbeats 8000000 in
set_option maxRecDepth 4000 in
theorem bX8_tell_15 {d n : Nat} {dy : Nat → Shp} {g : Hp} {P : Pst} {r1 : Nat} (hn : 100 ≤ n) (h : V miX8_tell (d + 1) 17 [(0, .ref 37), (1, .ref r1), (2, I_ 0)] [] n (W0 dy) g 0 0 P) : V miX8_tell (d + 1) 15 [(0, .ref 37), (1, .ref r1)] [] n (W0 dy) g 0 0 P := by
  refine v_iconst 9 rfl ?_
  refine v_istore_n 10 [1, 2, 0] rfl rfl (by decide) rfl ?_
  exact h
set_option maxHeartbeats 8000000 in
set_option maxRecDepth 4000 in
theorem bX8_tell_17 {d n : Nat} {dy : Nat → Shp} {g : Hp} {P : Pst} {r1 : Nat} {x2 : Int} (hn : 100 ≤ n) (h : (i3 x2) ∧ ((180 ≤ x2) → P (some (I_ (g 37 1))) n (W0 dy) g) ∧ ((x2 < 180) → (((g 37 4) ≤ 0) → P (some (I_ (g 37 1))) n (W0 dy) g) ∧ ((0 < (g 37 4)) → Runs miX8_goOnWith d [.ref 37, I_ ((g 37 4) - 1)] n (W0 dy) g (fun v n' S' g' => V miX8_tell (d + 1) 41 [(0, .ref 37), (1, .ref r1), (2, I_ x2)] (v.toList ++ []) n' S' g' 0 0 P)))) : V miX8_tell (d + 1) 17 [(0, .ref 37), (1, .ref r1), (2, I_ x2)] [] n (W0 dy) g 0 0 P := by
  refine v_iload_n 11 2 rfl rfl rfl ?_
  refine v_sipush 12 rfl (by decide) ?_
  have c1 := h.1
  have h := h.2
  refine v_icmp_ge 13 rfl (tgt := 47) rfl c1 (by decide) (fun q2 => ?_) (fun q2 => ?_)
  · have h := h.1 q2
    refine v_aload_n 25 0 rfl rfl rfl ?_
    refine v_gI 26 rfl fl8_15_7.r (al 37 rfl hn) (wk37 dy) (by decide) rfl (wc37_1 dy) (x := g 37 1) rfl ?_
    refine v_rng fun w3 => ?_
    have p4 : i3 (g 37 1) := rI w3 (q := 1) (al 37 rfl hn) (wk37 dy) rfl rfl
    exact v_ret (v := some (I_ (g 37 1))) 27 rfl (Nat.zero_le _) (Nat.zero_le _) trivial rfl h
  · have h := h.2 q2
    refine v_aload_n 14 0 rfl rfl rfl ?_
    refine v_gI 15 rfl fl8_29_7.r (al 37 rfl hn) (wk37 dy) (by decide) rfl (wc37_4 dy) (x := g 37 4) rfl ?_
    refine v_rng fun w5 => ?_
    have p6 : i3 (g 37 4) := rI w5 (q := 4) (al 37 rfl hn) (wk37 dy) rfl rfl
    refine v_if_le 16 rfl (tgt := 47) rfl p6 (fun q7 => ?_) (fun q7 => ?_)
    · have h := h.1 q7
      refine v_aload_n 25 0 rfl rfl rfl ?_
      refine v_gI 26 rfl fl8_15_7.r (al 37 rfl hn) (wk37 dy) (by decide) rfl (wc37_1 dy) (x := g 37 1) rfl ?_
      refine v_rng fun w8 => ?_
      have p9 : i3 (g 37 1) := rI w8 (q := 1) (al 37 rfl hn) (wk37 dy) rfl rfl
      exact v_ret (v := some (I_ (g 37 1))) 27 rfl (Nat.zero_le _) (Nat.zero_le _) trivial rfl h
    · have h := h.2 q7
      refine v_aload_n 17 0 rfl rfl rfl ?_
      refine v_aload_n 18 0 rfl rfl rfl ?_
      refine v_gI 19 rfl fl8_29_7.r (al 37 rfl hn) (wk37 dy) (by decide) rfl (wc37_4 dy) (x := g 37 4) rfl ?_
      refine v_rng fun w10 => ?_
      have p11 : i3 (g 37 4) := rI w10 (q := 4) (al 37 rfl hn) (wk37 dy) rfl rfl
      refine v_iconst 20 rfl ?_
      refine v_isub 21 rfl ?_
      refine v_callV (st := []) [I_ ((g 37 4) - 1)] 22 rfl lv8_40_tell_7 (al 37 rfl hn) (wk37 dy) (by decide) rfl (Nat.le_refl _) (Nat.le_refl _) ?_
      exact h
set_option maxHeartbeats 8000000 in
set_option maxRecDepth 4000 in
theorem bX8_tell_41 {d n : Nat} {dy : Nat → Shp} {g : Hp} {P : Pst} {r1 : Nat} {x2 : Int} (hn : 100 ≤ n) (h : V miX8_tell (d + 1) 17 [(0, .ref 37), (1, .ref r1), (2, I_ (x2 + 1))] [] n (W0 dy) g 0 0 P) : V miX8_tell (d + 1) 41 [(0, .ref 37), (1, .ref r1), (2, I_ x2)] [] n (W0 dy) g 0 0 P := by
  refine v_iinc 23 2 [1, 2, 0] rfl rfl (by decide) rfl ?_
  refine v_goto 24 rfl (tgt := 17) rfl ?_
  exact h
theorem wX8_tell {d n : Nat} {dy : Nat → Shp} {g : Hp} {P : Pst} {r1 : Nat} (hn : 100 ≤ n) (h : Runs miX8_tellPart d [.ref 37, .ref r1] n (W0 dy) (up2 (up2 g 37 1 0) 37 4 0) (fun v n' S' g' => V miX8_tell (d + 1) 15 [(0, .ref 37), (1, .ref r1)] (v.toList ++ []) n' S' g' 0 0 P)) : Runs miX8_tell (d + 1) [.ref 37, .ref r1] n (W0 dy) g P := Runs.of rfl rfl deX8_tell (Nat.le_of_ble_eq_true rfl) (bX8_tell_0 hn h)
theorem fl8_21_7 : FL RX8 21 7 2 true (.array (.object "MobileMaker$Rod")) := ⟨RX8, TX8, 5, "MobileMaker$Text", rfl, rfl, by decide, kf7, tbG_in (List.mem_append_right _ (List.mem_of_getElem? (i := 182) (by decide +kernel))) rfl, Or.inl rfl, rfl, by decide +kernel, ⟨tyX8, tyX8_ok⟩, nmX8, fun _ => rfl⟩
theorem fl8_25_7 : FL RX8 25 7 3 true (.array .int) := ⟨RX8, TX8, 5, "MobileMaker$Text", rfl, rfl, by decide, kf7, tbG_in (List.mem_append_right _ (List.mem_of_getElem? (i := 183) (by decide +kernel))) rfl, Or.inl rfl, rfl, by decide +kernel, ⟨tyX8, tyX8_ok⟩, nmX8, fun _ => rfl⟩
theorem fl8_44_5 : FL RX8 44 5 14 false (.object "MobileMaker$Part") := ⟨RX6, TX6, 16, "MobileMaker$Rod", rfl, rfl, by decide, kf5, tbG_in (List.mem_append_right _ (List.mem_of_getElem? (i := 460) (by decide +kernel))) rfl, Or.inl rfl, rfl, by decide +kernel, ⟨tyX6, tyX6_ok⟩, nmX6, fun h => by cases h⟩
theorem fl8_55_5 : FL RX8 55 5 12 false .int := ⟨RX6, TX6, 16, "MobileMaker$Rod", rfl, rfl, by decide, kf5, tbG_in (List.mem_append_right _ (List.mem_of_getElem? (i := 453) (by decide +kernel))) rfl, Or.inl rfl, rfl, by decide +kernel, ⟨tyX6, tyX6_ok⟩, nmX6, fun h => by cases h⟩
theorem fl8_61_5 : FL RX8 61 5 13 false .int := ⟨RX6, TX6, 16, "MobileMaker$Rod", rfl, rfl, by decide, kf5, tbG_in (List.mem_append_right _ (List.mem_of_getElem? (i := 456) (by decide +kernel))) rfl, Or.inl rfl, rfl, by decide +kernel, ⟨tyX6, tyX6_ok⟩, nmX6, fun h => by cases h⟩
theorem fl8_64_5 : FL RX8 64 5 15 false (.object "MobileMaker$Part") := ⟨RX6, TX6, 16, "MobileMaker$Rod", rfl, rfl, by decide, kf5, tbG_in (List.mem_append_right _ (List.mem_of_getElem? (i := 465) (by decide +kernel))) rfl, Or.inl rfl, rfl, by decide +kernel, ⟨tyX6, tyX6_ok⟩, nmX6, fun h => by cases h⟩
theorem lv8_51_goOnWith_7 : LkV miX8_goOnWith miX8_put 51 1 7 := ⟨⟨⟨tbG_in (List.mem_append_right _ (List.mem_of_getElem? (i := 1025) (by decide +kernel))) rfl, tbG_in (List.mem_append_right _ (List.mem_of_getElem? (i := 7) (by decide +kernel))) rfl, tbG_in (List.mem_append_right _ (List.mem_of_getElem? (i := 1022) (by decide +kernel))) rfl⟩, ⟨by decide +kernel, by decide +kernel, by decide +kernel⟩, by decide⟩, tbG_in (List.mem_append_right _ (List.mem_of_getElem? (i := 1024) (by decide +kernel))) rfl, RX8, TX8, 5, rfl, tbG_in (List.mem_append_left _ (List.mem_of_getElem? (i := 42) (by decide +kernel))) rfl⟩
theorem lv8_48_goOnWith_7 : LkV miX8_goOnWith miX8_tellSide 48 1 7 := ⟨⟨⟨tbG_in (List.mem_append_right _ (List.mem_of_getElem? (i := 1038) (by decide +kernel))) rfl, tbG_in (List.mem_append_right _ (List.mem_of_getElem? (i := 7) (by decide +kernel))) rfl, tbG_in (List.mem_append_right _ (List.mem_of_getElem? (i := 1035) (by decide +kernel))) rfl⟩, ⟨by decide +kernel, by decide +kernel, by decide +kernel⟩, by decide⟩, tbG_in (List.mem_append_right _ (List.mem_of_getElem? (i := 1037) (by decide +kernel))) rfl, RX8, TX8, 5, rfl, tbG_in (List.mem_append_left _ (List.mem_of_getElem? (i := 45) (by decide +kernel))) rfl⟩
theorem lv8_58_goOnWith_7 : LkV miX8_goOnWith miX8_putNumber 58 1 7 := ⟨⟨⟨tbG_in (List.mem_append_right _ (List.mem_of_getElem? (i := 1029) (by decide +kernel))) rfl, tbG_in (List.mem_append_right _ (List.mem_of_getElem? (i := 7) (by decide +kernel))) rfl, tbG_in (List.mem_append_right _ (List.mem_of_getElem? (i := 1026) (by decide +kernel))) rfl⟩, ⟨by decide +kernel, by decide +kernel, by decide +kernel⟩, by decide⟩, tbG_in (List.mem_append_right _ (List.mem_of_getElem? (i := 1028) (by decide +kernel))) rfl, RX8, TX8, 5, rfl, tbG_in (List.mem_append_left _ (List.mem_of_getElem? (i := 43) (by decide +kernel))) rfl⟩
set_option maxHeartbeats 8000000 in
set_option maxRecDepth 4000 in
theorem bX8_goOnWith_0 {d n : Nat} {dy : Nat → Shp} {g : Hp} {P : Pst} {x1 : Int} (hn : 100 ≤ n) (h : (0 ≤ x1 ∧ x1 < 60) ∧ (i3 ((g 40 x1.toNat) + 1)) ∧ (((g 40 x1.toNat) ≠ 0) → (((g 40 x1.toNat) ≠ 1) → Runs miX8_put d [.ref 37, I_ 41] n (W0 dy) (up2 g 40 x1.toNat ((g 40 x1.toNat) + 1)) (fun v n' S' g' => V miX8_goOnWith (d + 1) 95 [(0, .ref 37), (1, I_ x1), (2, .ref ((g 39 x1.toNat).toNat)), (3, I_ (g 40 x1.toNat))] (v.toList ++ []) n' S' g' 0 0 P)) ∧ (((g 40 x1.toNat) = 1) → Runs miX8_put d [.ref 37, I_ 44] n (W0 dy) (up2 g 40 x1.toNat ((g 40 x1.toNat) + 1)) (fun v n' S' g' => V miX8_goOnWith (d + 1) 50 [(0, .ref 37), (1, I_ x1), (2, .ref ((g 39 x1.toNat).toNat)), (3, I_ (g 40 x1.toNat))] (v.toList ++ []) n' S' g' 0 0 P))) ∧ (((g 40 x1.toNat) = 0) → (Ob n (W0 dy) ((g 39 x1.toNat).toNat) 5) ∧ Runs miX8_tellSide d [.ref 37, .ref (((up2 g 40 x1.toNat ((g 40 x1.toNat) + 1)) ((g 39 x1.toNat).toNat) 14).toNat)] n (W0 dy) (up2 g 40 x1.toNat ((g 40 x1.toNat) + 1)) (fun v n' S' g' => V miX8_goOnWith (d + 1) 36 [(0, .ref 37), (1, I_ x1), (2, .ref ((g 39 x1.toNat).toNat)), (3, I_ (g 40 x1.toNat))] (v.toList ++ []) n' S' g' 0 0 P))) : V miX8_goOnWith (d + 1) 0 [(0, .ref 37), (1, I_ x1)] [] n (W0 dy) g 0 0 P := by
  refine v_aload_n 0 0 rfl rfl rfl ?_
  refine v_gK 1 rfl fl8_21_7.r (al 37 rfl hn) (wk37 dy) (by decide) rfl (r := 39) (wc37_2 dy) ?_
  refine v_iload_n 2 1 rfl rfl rfl ?_
  have c1 := h.1
  have h := h.2
  refine v_ra (N := 60) 3 rfl (al 39 rfl hn) (wk39 dy) (wn39 dy) (by decide) c1 (y := g 39 x1.toNat) rfl ?_
  refine v_astore_n 4 [1, 2, 0] rfl rfl (by decide) rfl ?_
  refine v_aload_n 5 0 rfl rfl rfl ?_
  refine v_gK 6 rfl fl8_25_7.r (al 37 rfl hn) (wk37 dy) (by decide) rfl (r := 40) (wc37_3 dy) ?_
  refine v_iload_n 7 1 rfl rfl rfl ?_
  refine v_ia (N := 60) 8 rfl (al 40 rfl hn) (wk40 dy) (wn40 dy) (by decide) c1 (y := g 40 x1.toNat) rfl ?_
  refine v_rng fun w2 => ?_
  have p3 : i3 (g 40 x1.toNat) := rI w2 (q := x1.toNat) (al 40 rfl hn) (wk40 dy) rfl rfl
  refine v_istore_n 9 [1, 2, 3, 0] rfl rfl (by decide) rfl ?_
  refine v_aload_n 10 0 rfl rfl rfl ?_
  refine v_gK 11 rfl fl8_25_7.r (al 37 rfl hn) (wk37 dy) (by decide) rfl (r := 40) (wc37_3 dy) ?_
  refine v_iload_n 12 1 rfl rfl rfl ?_
  refine v_dup2 13 rfl (by intro h; cases h) (by intro h; cases h) ?_
  refine v_ia (N := 60) 14 rfl (al 40 rfl hn) (wk40 dy) (wn40 dy) (by decide) c1 (y := g 40 x1.toNat) rfl ?_
  refine v_rng fun w4 => ?_
  have p5 : i3 (g 40 x1.toNat) := rI w4 (q := x1.toNat) (al 40 rfl hn) (wk40 dy) rfl rfl
  refine v_iconst 15 rfl ?_
  refine v_iadd 16 rfl ?_
  have c6 := h.1
  have h := h.2
  refine v_iast (N := 60) 17 rfl (al 40 rfl hn) (wk40 dy) (wn40 dy) (by decide) c1 c6 ?_
  refine v_iload_n 18 3 rfl rfl rfl ?_
  refine v_if_ne 19 rfl (tgt := 39) rfl p3 (fun q7 => ?_) (fun q7 => ?_)
  · have h := h.1 q7
    refine v_iload_n 25 3 rfl rfl rfl ?_
    refine v_iconst 26 rfl ?_
    refine v_icmp_ne 27 rfl (tgt := 89) rfl p3 (by decide) (fun q8 => ?_) (fun q8 => ?_)
    · have h := h.1 q8
      refine v_aload_n 50 0 rfl rfl rfl ?_
      refine v_bipush 51 rfl (by decide) ?_
      refine v_callV (st := []) [I_ 41] 52 rfl lv8_51_goOnWith_7 (al 37 rfl hn) (wk37 dy) (by decide) rfl (Nat.le_refl _) (Nat.le_refl _) ?_
      exact h
    · have h := h.2 q8
      refine v_aload_n 28 0 rfl rfl rfl ?_
      refine v_bipush 29 rfl (by decide) ?_
      refine v_callV (st := []) [I_ 44] 30 rfl lv8_51_goOnWith_7 (al 37 rfl hn) (wk37 dy) (by decide) rfl (Nat.le_refl _) (Nat.le_refl _) ?_
      exact h
  · have h := h.2 q7
    refine v_aload_n 20 0 rfl rfl rfl ?_
    refine v_aload_n 21 2 rfl rfl rfl ?_
    have c9 := h.1
    have h := h.2
    refine v_gR 22 rfl fl8_44_5.r c9.1 c9.2.1 (by decide) rfl (c9.2.2 14) (x := (up2 g 40 x1.toNat ((g 40 x1.toNat) + 1)) ((g 39 x1.toNat).toNat) 14) rfl ?_
    refine v_callV (st := []) [.ref (((up2 g 40 x1.toNat ((g 40 x1.toNat) + 1)) ((g 39 x1.toNat).toNat) 14).toNat)] 23 rfl lv8_48_goOnWith_7 (al 37 rfl hn) (wk37 dy) (by decide) rfl (Nat.le_refl _) (Nat.le_refl _) ?_
    exact h
set_option maxHeartbeats 8000000 in
set_option maxRecDepth 4000 in
theorem bX8_goOnWith_36 {d n : Nat} {dy : Nat → Shp} {g : Hp} {P : Pst} {x1 : Int} {r2 : Nat} {x3 : Int} (hn : 100 ≤ n) (h : P none n (W0 dy) g) : V miX8_goOnWith (d + 1) 36 [(0, .ref 37), (1, I_ x1), (2, .ref r2), (3, I_ x3)] [] n (W0 dy) g 0 0 P := by
  refine v_goto 24 rfl (tgt := 105) rfl ?_
  exact v_ret (v := none) 59 rfl (Nat.zero_le _) (Nat.zero_le _) trivial rfl h
set_option maxHeartbeats 8000000 in
set_option maxRecDepth 4000 in
theorem bX8_goOnWith_50 {d n : Nat} {dy : Nat → Shp} {g : Hp} {P : Pst} {x1 : Int} {r2 : Nat} {x3 : Int} (hn : 100 ≤ n) (h : (Ob n (W0 dy) r2 5) ∧ Runs miX8_putNumber d [.ref 37, I_ (g r2 12)] n (W0 dy) g (fun v n' S' g' => V miX8_goOnWith (d + 1) 58 [(0, .ref 37), (1, I_ x1), (2, .ref r2), (3, I_ x3)] (v.toList ++ []) n' S' g' 0 0 P)) : V miX8_goOnWith (d + 1) 50 [(0, .ref 37), (1, I_ x1), (2, .ref r2), (3, I_ x3)] [] n (W0 dy) g 0 0 P := by
  refine v_aload_n 31 0 rfl rfl rfl ?_
  refine v_aload_n 32 2 rfl rfl rfl ?_
  have c1 := h.1
  have h := h.2
  refine v_gI 33 rfl fl8_55_5.r c1.1 c1.2.1 (by decide) rfl (c1.2.2 12) (x := g r2 12) rfl ?_
  refine v_rng fun w2 => ?_
  have p3 : i3 (g r2 12) := rI w2 (q := 12) c1.1 c1.2.1 rfl rfl
  refine v_callV (st := []) [I_ (g r2 12)] 34 rfl lv8_58_goOnWith_7 (al 37 rfl hn) (wk37 dy) (by decide) rfl (Nat.le_refl _) (Nat.le_refl _) ?_
  exact h
set_option maxHeartbeats 8000000 in
set_option maxRecDepth 4000 in
theorem bX8_goOnWith_58 {d n : Nat} {dy : Nat → Shp} {g : Hp} {P : Pst} {x1 : Int} {r2 : Nat} {x3 : Int} (hn : 100 ≤ n) (h : Runs miX8_put d [.ref 37, I_ 47] n (W0 dy) g (fun v n' S' g' => V miX8_goOnWith (d + 1) 64 [(0, .ref 37), (1, I_ x1), (2, .ref r2), (3, I_ x3)] (v.toList ++ []) n' S' g' 0 0 P)) : V miX8_goOnWith (d + 1) 58 [(0, .ref 37), (1, I_ x1), (2, .ref r2), (3, I_ x3)] [] n (W0 dy) g 0 0 P := by
  refine v_aload_n 35 0 rfl rfl rfl ?_
  refine v_bipush 36 rfl (by decide) ?_
  refine v_callV (st := []) [I_ 47] 37 rfl lv8_51_goOnWith_7 (al 37 rfl hn) (wk37 dy) (by decide) rfl (Nat.le_refl _) (Nat.le_refl _) ?_
  exact h
set_option maxHeartbeats 8000000 in
set_option maxRecDepth 4000 in
theorem bX8_goOnWith_64 {d n : Nat} {dy : Nat → Shp} {g : Hp} {P : Pst} {x1 : Int} {r2 : Nat} {x3 : Int} (hn : 100 ≤ n) (h : (Ob n (W0 dy) r2 5) ∧ Runs miX8_putNumber d [.ref 37, I_ (g r2 13)] n (W0 dy) g (fun v n' S' g' => V miX8_goOnWith (d + 1) 72 [(0, .ref 37), (1, I_ x1), (2, .ref r2), (3, I_ x3)] (v.toList ++ []) n' S' g' 0 0 P)) : V miX8_goOnWith (d + 1) 64 [(0, .ref 37), (1, I_ x1), (2, .ref r2), (3, I_ x3)] [] n (W0 dy) g 0 0 P := by
  refine v_aload_n 38 0 rfl rfl rfl ?_
  refine v_aload_n 39 2 rfl rfl rfl ?_
  have c1 := h.1
  have h := h.2
  refine v_gI 40 rfl fl8_61_5.r c1.1 c1.2.1 (by decide) rfl (c1.2.2 13) (x := g r2 13) rfl ?_
  refine v_rng fun w2 => ?_
  have p3 : i3 (g r2 13) := rI w2 (q := 13) c1.1 c1.2.1 rfl rfl
  refine v_callV (st := []) [I_ (g r2 13)] 41 rfl lv8_58_goOnWith_7 (al 37 rfl hn) (wk37 dy) (by decide) rfl (Nat.le_refl _) (Nat.le_refl _) ?_
  exact h
set_option maxHeartbeats 8000000 in
set_option maxRecDepth 4000 in
theorem bX8_goOnWith_72 {d n : Nat} {dy : Nat → Shp} {g : Hp} {P : Pst} {x1 : Int} {r2 : Nat} {x3 : Int} (hn : 100 ≤ n) (h : Runs miX8_put d [.ref 37, I_ 44] n (W0 dy) g (fun v n' S' g' => V miX8_goOnWith (d + 1) 78 [(0, .ref 37), (1, I_ x1), (2, .ref r2), (3, I_ x3)] (v.toList ++ []) n' S' g' 0 0 P)) : V miX8_goOnWith (d + 1) 72 [(0, .ref 37), (1, I_ x1), (2, .ref r2), (3, I_ x3)] [] n (W0 dy) g 0 0 P := by
  refine v_aload_n 42 0 rfl rfl rfl ?_
  refine v_bipush 43 rfl (by decide) ?_
  refine v_callV (st := []) [I_ 44] 44 rfl lv8_51_goOnWith_7 (al 37 rfl hn) (wk37 dy) (by decide) rfl (Nat.le_refl _) (Nat.le_refl _) ?_
  exact h
set_option maxHeartbeats 8000000 in
set_option maxRecDepth 4000 in
theorem bX8_goOnWith_78 {d n : Nat} {dy : Nat → Shp} {g : Hp} {P : Pst} {x1 : Int} {r2 : Nat} {x3 : Int} (hn : 100 ≤ n) (h : (Ob n (W0 dy) r2 5) ∧ Runs miX8_tellSide d [.ref 37, .ref ((g r2 15).toNat)] n (W0 dy) g (fun v n' S' g' => V miX8_goOnWith (d + 1) 86 [(0, .ref 37), (1, I_ x1), (2, .ref r2), (3, I_ x3)] (v.toList ++ []) n' S' g' 0 0 P)) : V miX8_goOnWith (d + 1) 78 [(0, .ref 37), (1, I_ x1), (2, .ref r2), (3, I_ x3)] [] n (W0 dy) g 0 0 P := by
  refine v_aload_n 45 0 rfl rfl rfl ?_
  refine v_aload_n 46 2 rfl rfl rfl ?_
  have c1 := h.1
  have h := h.2
  refine v_gR 47 rfl fl8_64_5.r c1.1 c1.2.1 (by decide) rfl (c1.2.2 15) (x := g r2 15) rfl ?_
  refine v_callV (st := []) [.ref ((g r2 15).toNat)] 48 rfl lv8_48_goOnWith_7 (al 37 rfl hn) (wk37 dy) (by decide) rfl (Nat.le_refl _) (Nat.le_refl _) ?_
  exact h
set_option maxHeartbeats 8000000 in
set_option maxRecDepth 4000 in
theorem bX8_goOnWith_86 {d n : Nat} {dy : Nat → Shp} {g : Hp} {P : Pst} {x1 : Int} {r2 : Nat} {x3 : Int} (hn : 100 ≤ n) (h : P none n (W0 dy) g) : V miX8_goOnWith (d + 1) 86 [(0, .ref 37), (1, I_ x1), (2, .ref r2), (3, I_ x3)] [] n (W0 dy) g 0 0 P := by
  refine v_goto 49 rfl (tgt := 105) rfl ?_
  exact v_ret (v := none) 59 rfl (Nat.zero_le _) (Nat.zero_le _) trivial rfl h
set_option maxHeartbeats 8000000 in
set_option maxRecDepth 4000 in
theorem bX8_goOnWith_95 {d n : Nat} {dy : Nat → Shp} {g : Hp} {P : Pst} {x1 : Int} {r2 : Nat} {x3 : Int} (hn : 100 ≤ n) (h : (i3 ((g 37 4) - 1)) ∧ P none n (W0 dy) (up2 g 37 4 ((g 37 4) - 1))) : V miX8_goOnWith (d + 1) 95 [(0, .ref 37), (1, I_ x1), (2, .ref r2), (3, I_ x3)] [] n (W0 dy) g 0 0 P := by
  refine v_aload_n 53 0 rfl rfl rfl ?_
  refine v_dup 54 rfl (by intro h; cases h) ?_
  refine v_gI 55 rfl fl8_29_7.r (al 37 rfl hn) (wk37 dy) (by decide) rfl (wc37_4 dy) (x := g 37 4) rfl ?_
  refine v_rng fun w1 => ?_
  have p2 : i3 (g 37 4) := rI w1 (q := 4) (al 37 rfl hn) (wk37 dy) rfl rfl
  refine v_iconst 56 rfl ?_
  refine v_isub 57 rfl ?_
  have c3 := h.1
  have h := h.2
  refine v_putI 58 rfl fl8_29_7 (al 37 rfl hn) (wk37 dy) (by decide) rfl (wc37_4 dy) c3 ?_
  exact v_ret (v := none) 59 rfl (Nat.zero_le _) (Nat.zero_le _) trivial rfl h
theorem wX8_goOnWith {d n : Nat} {dy : Nat → Shp} {g : Hp} {P : Pst} {x1 : Int} (hn : 100 ≤ n) (h : (0 ≤ x1 ∧ x1 < 60) ∧ (i3 ((g 40 x1.toNat) + 1)) ∧ (((g 40 x1.toNat) ≠ 0) → (((g 40 x1.toNat) ≠ 1) → Runs miX8_put d [.ref 37, I_ 41] n (W0 dy) (up2 g 40 x1.toNat ((g 40 x1.toNat) + 1)) (fun v n' S' g' => V miX8_goOnWith (d + 1) 95 [(0, .ref 37), (1, I_ x1), (2, .ref ((g 39 x1.toNat).toNat)), (3, I_ (g 40 x1.toNat))] (v.toList ++ []) n' S' g' 0 0 P)) ∧ (((g 40 x1.toNat) = 1) → Runs miX8_put d [.ref 37, I_ 44] n (W0 dy) (up2 g 40 x1.toNat ((g 40 x1.toNat) + 1)) (fun v n' S' g' => V miX8_goOnWith (d + 1) 50 [(0, .ref 37), (1, I_ x1), (2, .ref ((g 39 x1.toNat).toNat)), (3, I_ (g 40 x1.toNat))] (v.toList ++ []) n' S' g' 0 0 P))) ∧ (((g 40 x1.toNat) = 0) → (Ob n (W0 dy) ((g 39 x1.toNat).toNat) 5) ∧ Runs miX8_tellSide d [.ref 37, .ref (((up2 g 40 x1.toNat ((g 40 x1.toNat) + 1)) ((g 39 x1.toNat).toNat) 14).toNat)] n (W0 dy) (up2 g 40 x1.toNat ((g 40 x1.toNat) + 1)) (fun v n' S' g' => V miX8_goOnWith (d + 1) 36 [(0, .ref 37), (1, I_ x1), (2, .ref ((g 39 x1.toNat).toNat)), (3, I_ (g 40 x1.toNat))] (v.toList ++ []) n' S' g' 0 0 P))) : Runs miX8_goOnWith (d + 1) [.ref 37, I_ x1] n (W0 dy) g P := Runs.of rfl rfl deX8_goOnWith (Nat.le_of_ble_eq_true rfl) (bX8_goOnWith_0 hn h)
theorem fl8_67_3 : FL RX8 67 3 5 false .int := ⟨RX4, TX4, 14, "MobileMaker$Part", rfl, rfl, by decide, kf3, tbG_in (List.mem_append_right _ (List.mem_of_getElem? (i := 380) (by decide +kernel))) rfl, Or.inl rfl, rfl, by decide +kernel, ⟨tyX4, tyX4_ok⟩, nmX4, fun h => by cases h⟩
theorem fl8_67_5 : FL RX8 67 5 5 false .int := ⟨RX6, TX6, 16, "MobileMaker$Part", rfl, rfl, by decide, kf5, tbG_in (List.mem_append_right _ (List.mem_of_getElem? (i := 380) (by decide +kernel))) rfl, Or.inl rfl, rfl, by decide +kernel, ⟨tyX6, tyX6_ok⟩, nmX6, fun h => by cases h⟩
theorem fl8_67_9 : FL RX8 67 9 5 false .int := ⟨RX10, TX10, 10, "MobileMaker$Part", rfl, rfl, by decide, kf9, tbG_in (List.mem_append_right _ (List.mem_of_getElem? (i := 380) (by decide +kernel))) rfl, Or.inl rfl, rfl, by decide +kernel, ⟨tyX10, tyX10_ok⟩, nmX10, fun h => by cases h⟩
theorem lv8_58_tellSide_7 : LkV miX8_tellSide miX8_putNumber 58 1 7 := ⟨⟨⟨tbG_in (List.mem_append_right _ (List.mem_of_getElem? (i := 1029) (by decide +kernel))) rfl, tbG_in (List.mem_append_right _ (List.mem_of_getElem? (i := 7) (by decide +kernel))) rfl, tbG_in (List.mem_append_right _ (List.mem_of_getElem? (i := 1026) (by decide +kernel))) rfl⟩, ⟨by decide +kernel, by decide +kernel, by decide +kernel⟩, by decide⟩, tbG_in (List.mem_append_right _ (List.mem_of_getElem? (i := 1028) (by decide +kernel))) rfl, RX8, TX8, 5, rfl, tbG_in (List.mem_append_left _ (List.mem_of_getElem? (i := 43) (by decide +kernel))) rfl⟩
theorem lv8_51_tellSide_7 : LkV miX8_tellSide miX8_put 51 1 7 := ⟨⟨⟨tbG_in (List.mem_append_right _ (List.mem_of_getElem? (i := 1025) (by decide +kernel))) rfl, tbG_in (List.mem_append_right _ (List.mem_of_getElem? (i := 7) (by decide +kernel))) rfl, tbG_in (List.mem_append_right _ (List.mem_of_getElem? (i := 1022) (by decide +kernel))) rfl⟩, ⟨by decide +kernel, by decide +kernel, by decide +kernel⟩, by decide⟩, tbG_in (List.mem_append_right _ (List.mem_of_getElem? (i := 1024) (by decide +kernel))) rfl, RX8, TX8, 5, rfl, tbG_in (List.mem_append_left _ (List.mem_of_getElem? (i := 42) (by decide +kernel))) rfl⟩
theorem lv8_36_tellSide_7 : LkV miX8_tellSide miX8_tellPart 36 1 7 := ⟨⟨⟨tbG_in (List.mem_append_right _ (List.mem_of_getElem? (i := 1020) (by decide +kernel))) rfl, tbG_in (List.mem_append_right _ (List.mem_of_getElem? (i := 7) (by decide +kernel))) rfl, tbG_in (List.mem_append_right _ (List.mem_of_getElem? (i := 1017) (by decide +kernel))) rfl⟩, ⟨by decide +kernel, by decide +kernel, by decide +kernel⟩, by decide⟩, tbG_in (List.mem_append_right _ (List.mem_of_getElem? (i := 1019) (by decide +kernel))) rfl, RX8, TX8, 5, rfl, tbG_in (List.mem_append_left _ (List.mem_of_getElem? (i := 41) (by decide +kernel))) rfl⟩
set_option maxHeartbeats 8000000 in
set_option maxRecDepth 4000 in
theorem bX8_tellSide_0 {d n : Nat} {dy : Nat → Shp} {g : Hp} {P : Pst} {r1 : Nat} (hn : 100 ≤ n) (h : ((0 < r1) → (Pt n (W0 dy) r1) ∧ Runs miX8_putNumber d [.ref 37, I_ (g r1 5)] n (W0 dy) g (fun v n' S' g' => V miX8_tellSide (d + 1) 19 [(0, .ref 37), (1, .ref r1)] (v.toList ++ []) n' S' g' 0 0 P)) ∧ ((r1 = 0) → Runs miX8_put d [.ref 37, I_ 45] n (W0 dy) g (fun v n' S' g' => V miX8_tellSide (d + 1) 10 [(0, .ref 37), (1, .ref r1)] (v.toList ++ []) n' S' g' 0 0 P))) : V miX8_tellSide (d + 1) 0 [(0, .ref 37), (1, .ref r1)] [] n (W0 dy) g 0 0 P := by
  refine v_aload_n 0 1 rfl rfl rfl ?_
  refine v_ifnonnull 1 rfl (tgt := 11) rfl (fun q1 => ?_) (fun q1 => ?_)
  · have h := h.1 q1
    refine v_aload_n 6 0 rfl rfl rfl ?_
    refine v_aload_n 7 1 rfl rfl rfl ?_
    have c2 := h.1
    have h := h.2
    refine v_pI 8 rfl ⟨fl8_67_3.r, fl8_67_5.r, fl8_67_9.r⟩ c2 ⟨rfl, rfl, rfl⟩ (x := g r1 5) rfl ?_
    refine v_rng fun w3 => ?_
    have p4 : i3 (g r1 5) := rPI w3 (q := 5) c2 rfl rfl rfl rfl
    refine v_callV (st := []) [I_ (g r1 5)] 9 rfl lv8_58_tellSide_7 (al 37 rfl hn) (wk37 dy) (by decide) rfl (Nat.le_refl _) (Nat.le_refl _) ?_
    exact h
  · have h := h.2 q1
    refine v_aload_n 2 0 rfl rfl rfl ?_
    refine v_bipush 3 rfl (by decide) ?_
    refine v_callV (st := []) [I_ 45] 4 rfl lv8_51_tellSide_7 (al 37 rfl hn) (wk37 dy) (by decide) rfl (Nat.le_refl _) (Nat.le_refl _) ?_
    exact h
set_option maxHeartbeats 8000000 in
set_option maxRecDepth 4000 in
theorem bX8_tellSide_10 {d n : Nat} {dy : Nat → Shp} {g : Hp} {P : Pst} {r1 : Nat} (hn : 100 ≤ n) (h : P none n (W0 dy) g) : V miX8_tellSide (d + 1) 10 [(0, .ref 37), (1, .ref r1)] [] n (W0 dy) g 0 0 P := by
  exact v_ret (v := none) 5 rfl (Nat.zero_le _) (Nat.zero_le _) trivial rfl h
set_option maxHeartbeats 8000000 in
set_option maxRecDepth 4000 in
theorem bX8_tellSide_19 {d n : Nat} {dy : Nat → Shp} {g : Hp} {P : Pst} {r1 : Nat} (hn : 100 ≤ n) (h : Runs miX8_put d [.ref 37, I_ 58] n (W0 dy) g (fun v n' S' g' => V miX8_tellSide (d + 1) 25 [(0, .ref 37), (1, .ref r1)] (v.toList ++ []) n' S' g' 0 0 P)) : V miX8_tellSide (d + 1) 19 [(0, .ref 37), (1, .ref r1)] [] n (W0 dy) g 0 0 P := by
  refine v_aload_n 10 0 rfl rfl rfl ?_
  refine v_bipush 11 rfl (by decide) ?_
  refine v_callV (st := []) [I_ 58] 12 rfl lv8_51_tellSide_7 (al 37 rfl hn) (wk37 dy) (by decide) rfl (Nat.le_refl _) (Nat.le_refl _) ?_
  exact h
set_option maxHeartbeats 8000000 in
set_option maxRecDepth 4000 in
theorem bX8_tellSide_25 {d n : Nat} {dy : Nat → Shp} {g : Hp} {P : Pst} {r1 : Nat} (hn : 100 ≤ n) (h : Runs miX8_tellPart d [.ref 37, .ref r1] n (W0 dy) g (fun v n' S' g' => V miX8_tellSide (d + 1) 30 [(0, .ref 37), (1, .ref r1)] (v.toList ++ []) n' S' g' 0 0 P)) : V miX8_tellSide (d + 1) 25 [(0, .ref 37), (1, .ref r1)] [] n (W0 dy) g 0 0 P := by
  refine v_aload_n 13 0 rfl rfl rfl ?_
  refine v_aload_n 14 1 rfl rfl rfl ?_
  refine v_callV (st := []) [.ref r1] 15 rfl lv8_36_tellSide_7 (al 37 rfl hn) (wk37 dy) (by decide) rfl (Nat.le_refl _) (Nat.le_refl _) ?_
  exact h
set_option maxHeartbeats 8000000 in
set_option maxRecDepth 4000 in
theorem bX8_tellSide_30 {d n : Nat} {dy : Nat → Shp} {g : Hp} {P : Pst} {r1 : Nat} (hn : 100 ≤ n) (h : P none n (W0 dy) g) : V miX8_tellSide (d + 1) 30 [(0, .ref 37), (1, .ref r1)] [] n (W0 dy) g 0 0 P := by
  exact v_ret (v := none) 16 rfl (Nat.zero_le _) (Nat.zero_le _) trivial rfl h
theorem wX8_tellSide {d n : Nat} {dy : Nat → Shp} {g : Hp} {P : Pst} {r1 : Nat} (hn : 100 ≤ n) (h : ((0 < r1) → (Pt n (W0 dy) r1) ∧ Runs miX8_putNumber d [.ref 37, I_ (g r1 5)] n (W0 dy) g (fun v n' S' g' => V miX8_tellSide (d + 1) 19 [(0, .ref 37), (1, .ref r1)] (v.toList ++ []) n' S' g' 0 0 P)) ∧ ((r1 = 0) → Runs miX8_put d [.ref 37, I_ 45] n (W0 dy) g (fun v n' S' g' => V miX8_tellSide (d + 1) 10 [(0, .ref 37), (1, .ref r1)] (v.toList ++ []) n' S' g' 0 0 P))) : Runs miX8_tellSide (d + 1) [.ref 37, .ref r1] n (W0 dy) g P := Runs.of rfl rfl deX8_tellSide (Nat.le_of_ble_eq_true rfl) (bX8_tellSide_0 hn h)
theorem fl8_76_3 : FR RX8 76 3 1 := ⟨RX4, TX4, 14, "MobileMaker$Part", rfl, rfl, by decide, kf3, tbG_in (List.mem_append_right _ (List.mem_of_getElem? (i := 353) (by decide +kernel))) rfl, Or.inl rfl⟩
theorem fl8_76_5 : FR RX8 76 5 1 := ⟨RX6, TX6, 16, "MobileMaker$Part", rfl, rfl, by decide, kf5, tbG_in (List.mem_append_right _ (List.mem_of_getElem? (i := 353) (by decide +kernel))) rfl, Or.inl rfl⟩
theorem fl8_76_9 : FR RX8 76 9 1 := ⟨RX10, TX10, 10, "MobileMaker$Part", rfl, rfl, by decide, kf9, tbG_in (List.mem_append_right _ (List.mem_of_getElem? (i := 353) (by decide +kernel))) rfl, Or.inl rfl⟩
theorem fl8_79_3 : FR RX8 79 3 2 := ⟨RX4, TX4, 14, "MobileMaker$Part", rfl, rfl, by decide, kf3, tbG_in (List.mem_append_right _ (List.mem_of_getElem? (i := 359) (by decide +kernel))) rfl, Or.inl rfl⟩
theorem fl8_79_5 : FR RX8 79 5 2 := ⟨RX6, TX6, 16, "MobileMaker$Part", rfl, rfl, by decide, kf5, tbG_in (List.mem_append_right _ (List.mem_of_getElem? (i := 359) (by decide +kernel))) rfl, Or.inl rfl⟩
theorem fl8_79_9 : FR RX8 79 9 2 := ⟨RX10, TX10, 10, "MobileMaker$Part", rfl, rfl, by decide, kf9, tbG_in (List.mem_append_right _ (List.mem_of_getElem? (i := 359) (by decide +kernel))) rfl, Or.inl rfl⟩
theorem ln8_72_tellPart : LkN miX8_tellPart miX11_asRod 72 1 "MobileMaker" := ⟨⟨tbG_in (List.mem_append_right _ (List.mem_of_getElem? (i := 620) (by decide +kernel))) rfl, tbG_in (List.mem_append_right _ (List.mem_of_getElem? (i := 1) (by decide +kernel))) rfl, by decide⟩, ⟨by decide +kernel, by decide +kernel, by decide +kernel⟩, by decide, tbG_in (List.mem_append_right _ (List.mem_of_getElem? (i := 619) (by decide +kernel))) rfl, rfl⟩
theorem lv8_51_tellPart_7 : LkV miX8_tellPart miX8_put 51 1 7 := ⟨⟨⟨tbG_in (List.mem_append_right _ (List.mem_of_getElem? (i := 1025) (by decide +kernel))) rfl, tbG_in (List.mem_append_right _ (List.mem_of_getElem? (i := 7) (by decide +kernel))) rfl, tbG_in (List.mem_append_right _ (List.mem_of_getElem? (i := 1022) (by decide +kernel))) rfl⟩, ⟨by decide +kernel, by decide +kernel, by decide +kernel⟩, by decide⟩, tbG_in (List.mem_append_right _ (List.mem_of_getElem? (i := 1024) (by decide +kernel))) rfl, RX8, TX8, 5, rfl, tbG_in (List.mem_append_left _ (List.mem_of_getElem? (i := 42) (by decide +kernel))) rfl⟩
theorem lv8_58_tellPart_7 : LkV miX8_tellPart miX8_putNumber 58 1 7 := ⟨⟨⟨tbG_in (List.mem_append_right _ (List.mem_of_getElem? (i := 1029) (by decide +kernel))) rfl, tbG_in (List.mem_append_right _ (List.mem_of_getElem? (i := 7) (by decide +kernel))) rfl, tbG_in (List.mem_append_right _ (List.mem_of_getElem? (i := 1026) (by decide +kernel))) rfl⟩, ⟨by decide +kernel, by decide +kernel, by decide +kernel⟩, by decide⟩, tbG_in (List.mem_append_right _ (List.mem_of_getElem? (i := 1028) (by decide +kernel))) rfl, RX8, TX8, 5, rfl, tbG_in (List.mem_append_left _ (List.mem_of_getElem? (i := 43) (by decide +kernel))) rfl⟩
set_option maxHeartbeats 8000000 in
set_option maxRecDepth 4000 in
theorem bX8_tellPart_0 {d n : Nat} {dy : Nat → Shp} {g : Hp} {P : Pst} {r1 : Nat} (hn : 100 ≤ n) (h : Runs miX11_asRod d [.ref r1] n (W0 dy) g (fun v n' S' g' => V miX8_tellPart (d + 1) 4 [(0, .ref 37), (1, .ref r1)] (v.toList ++ []) n' S' g' 0 0 P)) : V miX8_tellPart (d + 1) 0 [(0, .ref 37), (1, .ref r1)] [] n (W0 dy) g 0 0 P := by
  refine v_aload_n 0 1 rfl rfl rfl ?_
  refine v_callSN (st := []) [.ref r1] 1 rfl ln8_72_tellPart rfl (Nat.lt_of_lt_of_le (by decide) hn) (Nat.le_refl _) (Nat.le_refl _) ?_
  exact h
set_option maxHeartbeats 8000000 in
set_option maxRecDepth 4000 in
theorem bX8_tellPart_4 {d n : Nat} {dy : Nat → Shp} {g : Hp} {P : Pst} {r1 : Nat} {rs0 : Nat} (hn : 100 ≤ n) (h : ((rs0 = 0) → (Pt n (W0 dy) r1) ∧ (((g r1 1) ≠ 4) → V miX8_tellPart (d + 1) 72 [(0, .ref 37), (1, .ref r1), (2, .ref rs0)] [] n (W0 dy) g 0 0 P) ∧ (((g r1 1) = 4) → Runs miX8_put d [.ref 37, I_ 112] n (W0 dy) g (fun v n' S' g' => V miX8_tellPart (d + 1) 72 [(0, .ref 37), (1, .ref r1), (2, .ref rs0)] (v.toList ++ []) n' S' g' 0 0 P))) ∧ ((0 < rs0) → ((60 ≤ (g 37 4)) → (Pt n (W0 dy) r1) ∧ (((g r1 1) ≠ 4) → V miX8_tellPart (d + 1) 72 [(0, .ref 37), (1, .ref r1), (2, .ref rs0)] [] n (W0 dy) g 0 0 P) ∧ (((g r1 1) = 4) → Runs miX8_put d [.ref 37, I_ 112] n (W0 dy) g (fun v n' S' g' => V miX8_tellPart (d + 1) 72 [(0, .ref 37), (1, .ref r1), (2, .ref rs0)] (v.toList ++ []) n' S' g' 0 0 P))) ∧ (((g 37 4) < 60) → Runs miX8_put d [.ref 37, I_ 40] n (W0 dy) g (fun v n' S' g' => V miX8_tellPart (d + 1) 27 [(0, .ref 37), (1, .ref r1), (2, .ref rs0)] (v.toList ++ []) n' S' g' 0 0 P)))) : V miX8_tellPart (d + 1) 4 [(0, .ref 37), (1, .ref r1)] [.ref rs0] n (W0 dy) g 0 0 P := by
  refine v_astore_n 2 [1, 2, 0] rfl rfl (by decide) rfl ?_
  refine v_aload_n 3 2 rfl rfl rfl ?_
  refine v_ifnull 4 rfl (tgt := 58) rfl (fun q1 => ?_) (fun q1 => ?_)
  · have h := h.1 q1
    refine v_aload_n 33 1 rfl rfl rfl ?_
    have c2 := h.1
    have h := h.2
    refine v_pI 34 rfl ⟨fl8_76_3, fl8_76_5, fl8_76_9⟩ c2 ⟨rfl, rfl, rfl⟩ (x := g r1 1) rfl ?_
    refine v_rng fun w3 => ?_
    have p4 : i3 (g r1 1) := rPI w3 (q := 1) c2 rfl rfl rfl rfl
    refine v_iconst 35 rfl ?_
    refine v_icmp_ne 36 rfl (tgt := 72) rfl p4 (by decide) (fun q5 => ?_) (fun q5 => ?_)
    · have h := h.1 q5
      exact h
    · have h := h.2 q5
      refine v_aload_n 37 0 rfl rfl rfl ?_
      refine v_bipush 38 rfl (by decide) ?_
      refine v_callV (st := []) [I_ 112] 39 rfl lv8_51_tellPart_7 (al 37 rfl hn) (wk37 dy) (by decide) rfl (Nat.le_refl _) (Nat.le_refl _) ?_
      exact h
  · have h := h.2 q1
    refine v_aload_n 5 0 rfl rfl rfl ?_
    refine v_gI 6 rfl fl8_29_7.r (al 37 rfl hn) (wk37 dy) (by decide) rfl (wc37_4 dy) (x := g 37 4) rfl ?_
    refine v_rng fun w6 => ?_
    have p7 : i3 (g 37 4) := rI w6 (q := 4) (al 37 rfl hn) (wk37 dy) rfl rfl
    refine v_aload_n 7 0 rfl rfl rfl ?_
    refine v_gK 8 rfl fl8_21_7.r (al 37 rfl hn) (wk37 dy) (by decide) rfl (r := 39) (wc37_2 dy) ?_
    refine v_alen (N := 60) (t := 17) 9 rfl (al 39 rfl hn) (wk39 dy) (by decide) (fun _ => rfl) (wn39 dy) ?_
    refine v_icmp_ge 10 rfl (tgt := 58) rfl p7 (by decide) (fun q8 => ?_) (fun q8 => ?_)
    · have h := h.1 q8
      refine v_aload_n 33 1 rfl rfl rfl ?_
      have c9 := h.1
      have h := h.2
      refine v_pI 34 rfl ⟨fl8_76_3, fl8_76_5, fl8_76_9⟩ c9 ⟨rfl, rfl, rfl⟩ (x := g r1 1) rfl ?_
      refine v_rng fun w10 => ?_
      have p11 : i3 (g r1 1) := rPI w10 (q := 1) c9 rfl rfl rfl rfl
      refine v_iconst 35 rfl ?_
      refine v_icmp_ne 36 rfl (tgt := 72) rfl p11 (by decide) (fun q12 => ?_) (fun q12 => ?_)
      · have h := h.1 q12
        exact h
      · have h := h.2 q12
        refine v_aload_n 37 0 rfl rfl rfl ?_
        refine v_bipush 38 rfl (by decide) ?_
        refine v_callV (st := []) [I_ 112] 39 rfl lv8_51_tellPart_7 (al 37 rfl hn) (wk37 dy) (by decide) rfl (Nat.le_refl _) (Nat.le_refl _) ?_
        exact h
    · have h := h.2 q8
      refine v_aload_n 11 0 rfl rfl rfl ?_
      refine v_bipush 12 rfl (by decide) ?_
      refine v_callV (st := []) [I_ 40] 13 rfl lv8_51_tellPart_7 (al 37 rfl hn) (wk37 dy) (by decide) rfl (Nat.le_refl _) (Nat.le_refl _) ?_
      exact h
set_option maxHeartbeats 8000000 in
set_option maxRecDepth 4000 in
theorem bX8_tellPart_27 {d n : Nat} {dy : Nat → Shp} {g : Hp} {P : Pst} {r1 : Nat} {r2 : Nat} (hn : 100 ≤ n) (h : (0 ≤ g 37 4 ∧ g 37 4 < 60) ∧ (Ob n (W0 dy) r2 5) ∧ (i3 ((g 37 4) + 1)) ∧ P none n (W0 dy) (up2 (up2 (up2 g 39 ((g 37 4).toNat) (((r2 : Nat) : Int))) 40 ((g 37 4).toNat) 0) 37 4 ((g 37 4) + 1))) : V miX8_tellPart (d + 1) 27 [(0, .ref 37), (1, .ref r1), (2, .ref r2)] [] n (W0 dy) g 0 0 P := by
  refine v_aload_n 14 0 rfl rfl rfl ?_
  refine v_gK 15 rfl fl8_21_7.r (al 37 rfl hn) (wk37 dy) (by decide) rfl (r := 39) (wc37_2 dy) ?_
  refine v_aload_n 16 0 rfl rfl rfl ?_
  refine v_gI 17 rfl fl8_29_7.r (al 37 rfl hn) (wk37 dy) (by decide) rfl (wc37_4 dy) (x := g 37 4) rfl ?_
  refine v_rng fun w1 => ?_
  have p2 : i3 (g 37 4) := rI w1 (q := 4) (al 37 rfl hn) (wk37 dy) rfl rfl
  refine v_aload_n 18 2 rfl rfl rfl ?_
  have c3 := h.1
  have h := h.2
  have c4 := h.1
  have h := h.2
  refine v_rast (N := 60) 19 rfl (al 39 rfl hn) (wk39 dy) (wn39 dy) (by decide) c3 c4.1 c4.2.1 (by decide) asgR ?_
  refine v_aload_n 20 0 rfl rfl rfl ?_
  refine v_gK 21 rfl fl8_25_7.r (al 37 rfl hn) (wk37 dy) (by decide) rfl (r := 40) (wc37_3 dy) ?_
  refine v_aload_n 22 0 rfl rfl rfl ?_
  refine v_gI 23 rfl fl8_29_7.r (al 37 rfl hn) (wk37 dy) (by decide) rfl (wc37_4 dy) (x := g 37 4) rfl ?_
  refine v_rng fun w5 => ?_
  have p6 : i3 (g 37 4) := rI w5 (q := 4) (al 37 rfl hn) (wk37 dy) rfl rfl
  refine v_iconst 24 rfl ?_
  refine v_iast (N := 60) 25 rfl (al 40 rfl hn) (wk40 dy) (wn40 dy) (by decide) c3 (by decide) ?_
  refine v_aload_n 26 0 rfl rfl rfl ?_
  refine v_dup 27 rfl (by intro h; cases h) ?_
  refine v_gI 28 rfl fl8_29_7.r (al 37 rfl hn) (wk37 dy) (by decide) rfl (wc37_4 dy) (x := g 37 4) rfl ?_
  refine v_rng fun w7 => ?_
  have p8 : i3 (g 37 4) := rI w7 (q := 4) (al 37 rfl hn) (wk37 dy) rfl rfl
  refine v_iconst 29 rfl ?_
  refine v_iadd 30 rfl ?_
  have c9 := h.1
  have h := h.2
  refine v_putI 31 rfl fl8_29_7 (al 37 rfl hn) (wk37 dy) (by decide) rfl (wc37_4 dy) c9 ?_
  exact v_ret (v := none) 32 rfl (Nat.zero_le _) (Nat.zero_le _) trivial rfl h
set_option maxHeartbeats 8000000 in
set_option maxRecDepth 4000 in
theorem bX8_tellPart_72 {d n : Nat} {dy : Nat → Shp} {g : Hp} {P : Pst} {r1 : Nat} {r2 : Nat} (hn : 100 ≤ n) (h : (Pt n (W0 dy) r1) ∧ Runs miX8_putNumber d [.ref 37, I_ (g r1 2)] n (W0 dy) g (fun v n' S' g' => V miX8_tellPart (d + 1) 80 [(0, .ref 37), (1, .ref r1), (2, .ref r2)] (v.toList ++ []) n' S' g' 0 0 P)) : V miX8_tellPart (d + 1) 72 [(0, .ref 37), (1, .ref r1), (2, .ref r2)] [] n (W0 dy) g 0 0 P := by
  refine v_aload_n 40 0 rfl rfl rfl ?_
  refine v_aload_n 41 1 rfl rfl rfl ?_
  have c1 := h.1
  have h := h.2
  refine v_pI 42 rfl ⟨fl8_79_3, fl8_79_5, fl8_79_9⟩ c1 ⟨rfl, rfl, rfl⟩ (x := g r1 2) rfl ?_
  refine v_rng fun w2 => ?_
  have p3 : i3 (g r1 2) := rPI w2 (q := 2) c1 rfl rfl rfl rfl
  refine v_callV (st := []) [I_ (g r1 2)] 43 rfl lv8_58_tellPart_7 (al 37 rfl hn) (wk37 dy) (by decide) rfl (Nat.le_refl _) (Nat.le_refl _) ?_
  exact h
set_option maxHeartbeats 8000000 in
set_option maxRecDepth 4000 in
theorem bX8_tellPart_80 {d n : Nat} {dy : Nat → Shp} {g : Hp} {P : Pst} {r1 : Nat} {r2 : Nat} (hn : 100 ≤ n) (h : P none n (W0 dy) g) : V miX8_tellPart (d + 1) 80 [(0, .ref 37), (1, .ref r1), (2, .ref r2)] [] n (W0 dy) g 0 0 P := by
  exact v_ret (v := none) 44 rfl (Nat.zero_le _) (Nat.zero_le _) trivial rfl h
theorem wX8_tellPart {d n : Nat} {dy : Nat → Shp} {g : Hp} {P : Pst} {r1 : Nat} (hn : 100 ≤ n) (h : Runs miX11_asRod d [.ref r1] n (W0 dy) g (fun v n' S' g' => V miX8_tellPart (d + 1) 4 [(0, .ref 37), (1, .ref r1)] (v.toList ++ []) n' S' g' 0 0 P)) : Runs miX8_tellPart (d + 1) [.ref 37, .ref r1] n (W0 dy) g P := Runs.of rfl rfl deX8_tellPart (Nat.le_of_ble_eq_true rfl) (bX8_tellPart_0 hn h)
theorem lv8_51_putNumber_7 : LkV miX8_putNumber miX8_put 51 1 7 := ⟨⟨⟨tbG_in (List.mem_append_right _ (List.mem_of_getElem? (i := 1025) (by decide +kernel))) rfl, tbG_in (List.mem_append_right _ (List.mem_of_getElem? (i := 7) (by decide +kernel))) rfl, tbG_in (List.mem_append_right _ (List.mem_of_getElem? (i := 1022) (by decide +kernel))) rfl⟩, ⟨by decide +kernel, by decide +kernel, by decide +kernel⟩, by decide⟩, tbG_in (List.mem_append_right _ (List.mem_of_getElem? (i := 1024) (by decide +kernel))) rfl, RX8, TX8, 5, rfl, tbG_in (List.mem_append_left _ (List.mem_of_getElem? (i := 42) (by decide +kernel))) rfl⟩
set_option maxHeartbeats 8000000 in
set_option maxRecDepth 4000 in
theorem bX8_putNumber_0 {d n : Nat} {dy : Nat → Shp} {g : Hp} {P : Pst} {x1 : Int} (hn : 100 ≤ n) (h : V miX8_putNumber (d + 1) 5 [(0, .ref 37), (1, I_ x1), (2, I_ 0), (3, I_ 1000000000)] [] n (W0 dy) g 0 0 P) : V miX8_putNumber (d + 1) 0 [(0, .ref 37), (1, I_ x1)] [] n (W0 dy) g 0 0 P := by
  refine v_iconst 0 rfl ?_
  refine v_istore_n 1 [1, 2, 0] rfl rfl (by decide) rfl ?_
  refine v_ldc (v := 1000000000) 2 rfl (tbG_in (List.mem_append_right _ (List.mem_of_getElem? (i := 1030) (by decide +kernel))) rfl) ?_
  refine v_istore_n 3 [1, 2, 3, 0] rfl rfl (by decide) rfl ?_
  exact h
set_option maxHeartbeats 8000000 in
set_option maxRecDepth 4000 in
theorem bX8_putNumber_5 {d n : Nat} {dy : Nat → Shp} {g : Hp} {P : Pst} {x1 : Int} {x2 : Int} {x3 : Int} (hn : 100 ≤ n) (h : (i3 x3) ∧ ((x3 ≤ 0) → P none n (W0 dy) g) ∧ ((0 < x3) → (i3 x1) ∧ (x3 ≠ 0) ∧ (i3 (x1.tdiv x3)) ∧ (i3 x2) ∧ ((x2 ≠ 0) → Runs miX8_put d [.ref 37, I_ (c2c (48 + ((x1.tdiv x3).tmod 10)))] n (W0 dy) g (fun v n' S' g' => V miX8_putNumber (d + 1) 51 [(0, .ref 37), (1, I_ x1), (2, I_ 1), (3, I_ x3), (4, I_ ((x1.tdiv x3).tmod 10))] (v.toList ++ []) n' S' g' 0 0 P)) ∧ ((x2 = 0) → (i3 ((x1.tdiv x3).tmod 10)) ∧ ((((x1.tdiv x3).tmod 10) ≠ 0) → Runs miX8_put d [.ref 37, I_ (c2c (48 + ((x1.tdiv x3).tmod 10)))] n (W0 dy) g (fun v n' S' g' => V miX8_putNumber (d + 1) 51 [(0, .ref 37), (1, I_ x1), (2, I_ 1), (3, I_ x3), (4, I_ ((x1.tdiv x3).tmod 10))] (v.toList ++ []) n' S' g' 0 0 P)) ∧ ((((x1.tdiv x3).tmod 10) = 0) → ((x3 ≠ 1) → V miX8_putNumber (d + 1) 51 [(0, .ref 37), (1, I_ x1), (2, I_ 0), (3, I_ x3), (4, I_ ((x1.tdiv x3).tmod 10))] [] n (W0 dy) g 0 0 P) ∧ ((x3 = 1) → Runs miX8_put d [.ref 37, I_ (c2c (48 + ((x1.tdiv x3).tmod 10)))] n (W0 dy) g (fun v n' S' g' => V miX8_putNumber (d + 1) 51 [(0, .ref 37), (1, I_ x1), (2, I_ 1), (3, I_ x3), (4, I_ ((x1.tdiv x3).tmod 10))] (v.toList ++ []) n' S' g' 0 0 P)))))) : V miX8_putNumber (d + 1) 5 [(0, .ref 37), (1, I_ x1), (2, I_ x2), (3, I_ x3)] [] n (W0 dy) g 0 0 P := by
  refine v_iload_n 4 3 rfl rfl rfl ?_
  have c1 := h.1
  have h := h.2
  refine v_if_le 5 rfl (tgt := 59) rfl c1 (fun q2 => ?_) (fun q2 => ?_)
  · have h := h.1 q2
    exact v_ret (v := none) 36 rfl (Nat.zero_le _) (Nat.zero_le _) trivial rfl h
  · have h := h.2 q2
    refine v_iload_n 6 1 rfl rfl rfl ?_
    refine v_iload_n 7 3 rfl rfl rfl ?_
    have c3 := h.1
    have h := h.2
    have c4 := h.1
    have h := h.2
    refine v_idiv 8 rfl c3 c1 c4 ?_
    refine v_bipush 9 rfl (by decide) ?_
    have c5 := h.1
    have h := h.2
    refine v_irem 10 rfl c5 (by decide) (by decide) ?_
    refine v_istore 11 [1, 2, 3, 4, 0] rfl (by decide) rfl ?_
    refine v_iload_n 12 2 rfl rfl rfl ?_
    have c6 := h.1
    have h := h.2
    refine v_if_ne 13 rfl (tgt := 31) rfl c6 (fun q7 => ?_) (fun q7 => ?_)
    · have h := h.1 q7
      refine v_iconst 19 rfl ?_
      refine v_goto 20 rfl (tgt := 36) rfl ?_
      refine v_istore_n 22 [1, 2, 0, 3, 4] rfl rfl (by decide) rfl ?_
      refine v_iload_n 23 2 rfl rfl rfl ?_
      refine v_if_eq 24 rfl (tgt := 51) rfl (by decide) (fun q8 => ?_) (fun q8 => ?_)
      · exact absurd q8 (by decide)
      · refine v_aload_n 25 0 rfl rfl rfl ?_
        refine v_bipush 26 rfl (by decide) ?_
        refine v_iload 27 4 rfl rfl ?_
        refine v_iadd 28 rfl ?_
        refine v_i2c 29 rfl ?_
        refine v_callV (st := []) [I_ (c2c (48 + ((x1.tdiv x3).tmod 10)))] 30 rfl lv8_51_putNumber_7 (al 37 rfl hn) (wk37 dy) (by decide) rfl (Nat.le_refl _) (Nat.le_refl _) ?_
        exact h
    · have h := h.2 q7
      refine v_iload 14 4 rfl rfl ?_
      have c9 := h.1
      have h := h.2
      refine v_if_ne 15 rfl (tgt := 31) rfl c9 (fun q10 => ?_) (fun q10 => ?_)
      · have h := h.1 q10
        refine v_iconst 19 rfl ?_
        refine v_goto 20 rfl (tgt := 36) rfl ?_
        refine v_istore_n 22 [1, 2, 0, 3, 4] rfl rfl (by decide) rfl ?_
        refine v_iload_n 23 2 rfl rfl rfl ?_
        refine v_if_eq 24 rfl (tgt := 51) rfl (by decide) (fun q11 => ?_) (fun q11 => ?_)
        · exact absurd q11 (by decide)
        · refine v_aload_n 25 0 rfl rfl rfl ?_
          refine v_bipush 26 rfl (by decide) ?_
          refine v_iload 27 4 rfl rfl ?_
          refine v_iadd 28 rfl ?_
          refine v_i2c 29 rfl ?_
          refine v_callV (st := []) [I_ (c2c (48 + ((x1.tdiv x3).tmod 10)))] 30 rfl lv8_51_putNumber_7 (al 37 rfl hn) (wk37 dy) (by decide) rfl (Nat.le_refl _) (Nat.le_refl _) ?_
          exact h
      · have h := h.2 q10
        refine v_iload_n 16 3 rfl rfl rfl ?_
        refine v_iconst 17 rfl ?_
        refine v_icmp_ne 18 rfl (tgt := 35) rfl c1 (by decide) (fun q12 => ?_) (fun q12 => ?_)
        · have h := h.1 q12
          refine v_iconst 21 rfl ?_
          refine v_istore_n 22 [1, 2, 0, 3, 4] rfl rfl (by decide) rfl ?_
          refine v_iload_n 23 2 rfl rfl rfl ?_
          refine v_if_eq 24 rfl (tgt := 51) rfl (by decide) (fun q13 => ?_) (fun q13 => ?_)
          · exact h
          · exact absurd q13 (by decide)
        · have h := h.2 q12
          refine v_iconst 19 rfl ?_
          refine v_goto 20 rfl (tgt := 36) rfl ?_
          refine v_istore_n 22 [1, 2, 0, 3, 4] rfl rfl (by decide) rfl ?_
          refine v_iload_n 23 2 rfl rfl rfl ?_
          refine v_if_eq 24 rfl (tgt := 51) rfl (by decide) (fun q14 => ?_) (fun q14 => ?_)
          · exact absurd q14 (by decide)
          · refine v_aload_n 25 0 rfl rfl rfl ?_
            refine v_bipush 26 rfl (by decide) ?_
            refine v_iload 27 4 rfl rfl ?_
            refine v_iadd 28 rfl ?_
            refine v_i2c 29 rfl ?_
            refine v_callV (st := []) [I_ (c2c (48 + ((x1.tdiv x3).tmod 10)))] 30 rfl lv8_51_putNumber_7 (al 37 rfl hn) (wk37 dy) (by decide) rfl (Nat.le_refl _) (Nat.le_refl _) ?_
            exact h
set_option maxHeartbeats 8000000 in
set_option maxRecDepth 4000 in
theorem bX8_putNumber_51 {d n : Nat} {dy : Nat → Shp} {g : Hp} {P : Pst} {x1 : Int} {x2 : Int} {x3 : Int} {x4 : Int} (hn : 100 ≤ n) (h : (i3 x3) ∧ V miX8_putNumber (d + 1) 5 [(0, .ref 37), (1, I_ x1), (2, I_ x2), (3, I_ (x3.tdiv 10))] [] n (W0 dy) g 0 0 P) : V miX8_putNumber (d + 1) 51 [(0, .ref 37), (1, I_ x1), (2, I_ x2), (3, I_ x3), (4, I_ x4)] [] n (W0 dy) g 0 0 P := by
  refine v_iload_n 31 3 rfl rfl rfl ?_
  refine v_bipush 32 rfl (by decide) ?_
  have c1 := h.1
  have h := h.2
  refine v_idiv 33 rfl c1 (by decide) (by decide) ?_
  refine v_istore_n 34 [1, 2, 3, 0, 4] rfl rfl (by decide) rfl ?_
  refine v_goto 35 rfl (tgt := 5) rfl ?_
  refine v_loc [0, 1, 2, 3] rfl ?_
  exact h
theorem wX8_putNumber {d n : Nat} {dy : Nat → Shp} {g : Hp} {P : Pst} {x1 : Int} (hn : 100 ≤ n) (h : V miX8_putNumber (d + 1) 5 [(0, .ref 37), (1, I_ x1), (2, I_ 0), (3, I_ 1000000000)] [] n (W0 dy) g 0 0 P) : Runs miX8_putNumber (d + 1) [.ref 37, I_ x1] n (W0 dy) g P := Runs.of rfl rfl deX8_putNumber (Nat.le_of_ble_eq_true rfl) (bX8_putNumber_0 hn h)
set_option maxHeartbeats 8000000 in
set_option maxRecDepth 4000 in
theorem bX8_put_0 {d n : Nat} {dy : Nat → Shp} {g : Hp} {P : Pst} {x1 : Int} (hn : 100 ≤ n) (h : ((600 ≤ (g 37 1)) → (i3 ((g 37 1) + 1)) ∧ P none n (W0 dy) (up2 g 37 1 ((g 37 1) + 1))) ∧ (((g 37 1) < 600) → (0 ≤ g 37 1 ∧ g 37 1 < 600) ∧ (i3 ((g 37 1) + 1)) ∧ P none n (W0 dy) (up2 (up2 g 38 ((g 37 1).toNat) (c2b x1)) 37 1 ((g 37 1) + 1)))) : V miX8_put d 0 [(0, .ref 37), (1, I_ x1)] [] n (W0 dy) g 0 0 P := by
  refine v_aload_n 0 0 rfl rfl rfl ?_
  refine v_gI 1 rfl fl8_15_7.r (al 37 rfl hn) (wk37 dy) (by decide) rfl (wc37_1 dy) (x := g 37 1) rfl ?_
  refine v_rng fun w1 => ?_
  have p2 : i3 (g 37 1) := rI w1 (q := 1) (al 37 rfl hn) (wk37 dy) rfl rfl
  refine v_aload_n 2 0 rfl rfl rfl ?_
  refine v_gK 3 rfl fl8_9_7.r (al 37 rfl hn) (wk37 dy) (by decide) rfl (r := 38) (wc37_0 dy) ?_
  refine v_alen (N := 600) (t := 12) 4 rfl (al 38 rfl hn) (wk38 dy) (by decide) (fun _ => rfl) (wn38 dy) ?_
  refine v_icmp_ge 5 rfl (tgt := 23) rfl p2 (by decide) (fun q3 => ?_) (fun q3 => ?_)
  · have h := h.1 q3
    refine v_aload_n 13 0 rfl rfl rfl ?_
    refine v_dup 14 rfl (by intro h; cases h) ?_
    refine v_gI 15 rfl fl8_15_7.r (al 37 rfl hn) (wk37 dy) (by decide) rfl (wc37_1 dy) (x := g 37 1) rfl ?_
    refine v_rng fun w4 => ?_
    have p5 : i3 (g 37 1) := rI w4 (q := 1) (al 37 rfl hn) (wk37 dy) rfl rfl
    refine v_iconst 16 rfl ?_
    refine v_iadd 17 rfl ?_
    have c6 := h.1
    have h := h.2
    refine v_putI 18 rfl fl8_15_7 (al 37 rfl hn) (wk37 dy) (by decide) rfl (wc37_1 dy) c6 ?_
    exact v_ret (v := none) 19 rfl (Nat.zero_le _) (Nat.zero_le _) trivial rfl h
  · have h := h.2 q3
    refine v_aload_n 6 0 rfl rfl rfl ?_
    refine v_gK 7 rfl fl8_9_7.r (al 37 rfl hn) (wk37 dy) (by decide) rfl (r := 38) (wc37_0 dy) ?_
    refine v_aload_n 8 0 rfl rfl rfl ?_
    refine v_gI 9 rfl fl8_15_7.r (al 37 rfl hn) (wk37 dy) (by decide) rfl (wc37_1 dy) (x := g 37 1) rfl ?_
    refine v_rng fun w7 => ?_
    have p8 : i3 (g 37 1) := rI w7 (q := 1) (al 37 rfl hn) (wk37 dy) rfl rfl
    refine v_iload_n 10 1 rfl rfl rfl ?_
    refine v_i2b 11 rfl ?_
    have c9 := h.1
    have h := h.2
    refine v_bast (N := 600) 12 rfl (al 38 rfl hn) (wk38 dy) (wn38 dy) (by decide) c9 (c2b_n _) (c2b_r _) ?_
    refine v_aload_n 13 0 rfl rfl rfl ?_
    refine v_dup 14 rfl (by intro h; cases h) ?_
    refine v_gI 15 rfl fl8_15_7.r (al 37 rfl hn) (wk37 dy) (by decide) rfl (wc37_1 dy) (x := g 37 1) rfl ?_
    refine v_rng fun w10 => ?_
    have p11 : i3 (g 37 1) := rI w10 (q := 1) (al 37 rfl hn) (wk37 dy) rfl rfl
    refine v_iconst 16 rfl ?_
    refine v_iadd 17 rfl ?_
    have c12 := h.1
    have h := h.2
    refine v_putI 18 rfl fl8_15_7 (al 37 rfl hn) (wk37 dy) (by decide) rfl (wc37_1 dy) c12 ?_
    exact v_ret (v := none) 19 rfl (Nat.zero_le _) (Nat.zero_le _) trivial rfl h
theorem wX8_put {d n : Nat} {dy : Nat → Shp} {g : Hp} {P : Pst} {x1 : Int} (hn : 100 ≤ n) (h : ((600 ≤ (g 37 1)) → (i3 ((g 37 1) + 1)) ∧ P none n (W0 dy) (up2 g 37 1 ((g 37 1) + 1))) ∧ (((g 37 1) < 600) → (0 ≤ g 37 1 ∧ g 37 1 < 600) ∧ (i3 ((g 37 1) + 1)) ∧ P none n (W0 dy) (up2 (up2 g 38 ((g 37 1).toNat) (c2b x1)) 37 1 ((g 37 1) + 1)))) : Runs miX8_put d [.ref 37, I_ x1] n (W0 dy) g P := Runs.of rfl rfl deX8_put (Nat.le_of_ble_eq_true rfl) (bX8_put_0 hn h)
theorem fl9_9_8 : FL RX9 9 8 0 false .int := ⟨RX9, TX9, 3, "MobileMaker$Tray", rfl, rfl, by decide, kf8, tbG_in (List.mem_append_right _ (List.mem_of_getElem? (i := 202) (by decide +kernel))) rfl, Or.inl rfl, rfl, by decide +kernel, ⟨tyX9, tyX9_ok⟩, nmX9, fun h => by cases h⟩
set_option maxHeartbeats 8000000 in
set_option maxRecDepth 4000 in
theorem bX9_isMissing_0 {d n : Nat} {dy : Nat → Shp} {g : Hp} {P : Pst} {r0 : Nat} (hn : 100 ≤ n) (h : (Tr n (W0 dy) r0) ∧ (((g r0 0) ≠ ((-1))) → P (some (I_ 0)) n (W0 dy) g) ∧ (((g r0 0) = ((-1))) → P (some (I_ 1)) n (W0 dy) g)) : V miX9_isMissing d 0 [(0, .ref r0)] [] n (W0 dy) g 0 0 P := by
  refine v_aload_n 0 0 rfl rfl rfl ?_
  have c1 := h.1
  have h := h.2
  refine v_gI 1 rfl fl9_9_8.r c1.1 c1.2.1 (by decide) rfl c1.2.2.1 (x := g r0 0) rfl ?_
  refine v_rng fun w2 => ?_
  have p3 : i3 (g r0 0) := rI w2 (q := 0) c1.1 c1.2.1 rfl rfl
  refine v_iconst 2 rfl ?_
  refine v_icmp_ne 3 rfl (tgt := 12) rfl p3 (by decide) (fun q4 => ?_) (fun q4 => ?_)
  · have h := h.1 q4
    refine v_iconst 6 rfl ?_
    exact v_ret (v := some (I_ 0)) 7 rfl (Nat.zero_le _) (Nat.zero_le _) (Or.inl rfl) rfl h
  · have h := h.2 q4
    refine v_iconst 4 rfl ?_
    refine v_goto 5 rfl (tgt := 13) rfl ?_
    exact v_ret (v := some (I_ 1)) 7 rfl (Nat.zero_le _) (Nat.zero_le _) (Or.inr rfl) rfl h
theorem wX9_isMissing {d n : Nat} {dy : Nat → Shp} {g : Hp} {P : Pst} {r0 : Nat} (hn : 100 ≤ n) (h : (Tr n (W0 dy) r0) ∧ (((g r0 0) ≠ ((-1))) → P (some (I_ 0)) n (W0 dy) g) ∧ (((g r0 0) = ((-1))) → P (some (I_ 1)) n (W0 dy) g)) : Runs miX9_isMissing d [.ref r0] n (W0 dy) g P := Runs.of rfl rfl deX9_isMissing (Nat.le_of_ble_eq_true rfl) (bX9_isMissing_0 hn h)
theorem fl9_15_8 : FL RX9 15 8 1 false .int := ⟨RX9, TX9, 3, "MobileMaker$Tray", rfl, rfl, by decide, kf8, tbG_in (List.mem_append_right _ (List.mem_of_getElem? (i := 204) (by decide +kernel))) rfl, Or.inl rfl, rfl, by decide +kernel, ⟨tyX9, tyX9_ok⟩, nmX9, fun h => by cases h⟩
theorem fl9_18_8 : FL RX9 18 8 2 true (.array .long) := ⟨RX9, TX9, 3, "MobileMaker$Tray", rfl, rfl, by decide, kf8, tbG_in (List.mem_append_right _ (List.mem_of_getElem? (i := 207) (by decide +kernel))) rfl, Or.inl rfl, rfl, by decide +kernel, ⟨tyX9, tyX9_ok⟩, nmX9, fun _ => rfl⟩
theorem ls9_22_lay : LkS miX9_lay miJ7_fill_d0a16 22 2 := ⟨⟨⟨tbG_in (List.mem_append_right _ (List.mem_of_getElem? (i := 278) (by decide +kernel))) rfl, tbG_in (List.mem_append_right _ (List.mem_of_getElem? (i := 10) (by decide +kernel))) rfl, tbG_in (List.mem_append_right _ (List.mem_of_getElem? (i := 276) (by decide +kernel))) rfl⟩, ⟨by decide +kernel, by decide +kernel, by decide +kernel⟩, by decide⟩, tbG_in (List.mem_append_right _ (List.mem_of_getElem? (i := 277) (by decide +kernel))) rfl⟩
set_option maxHeartbeats 8000000 in
set_option maxRecDepth 4000 in
theorem bX9_lay_0 {d n : Nat} {dy : Nat → Shp} {g : Hp} {P : Pst} {r0 : Nat} {x1 : Int} {x2 : Int} (hn : 100 ≤ n) (h : (Tr n (W0 dy) r0) ∧ (i3 x1) ∧ (i3 x2) ∧ Runs miJ7_fill_d0a16 d [.ref (r0 + 1), L_ 0] n (W0 dy) (up2 (up2 g r0 0 x1) r0 1 x2) (fun v n' S' g' => V miX9_lay (d + 1) 18 [(0, .ref r0), (1, I_ x1), (2, I_ x2)] (v.toList ++ []) n' S' g' 0 0 P)) : V miX9_lay (d + 1) 0 [(0, .ref r0), (1, I_ x1), (2, I_ x2)] [] n (W0 dy) g 0 0 P := by
  refine v_aload_n 0 0 rfl rfl rfl ?_
  refine v_iload_n 1 1 rfl rfl rfl ?_
  have c1 := h.1
  have h := h.2
  have c2 := h.1
  have h := h.2
  refine v_putI 2 rfl fl9_9_8 c1.1 c1.2.1 (by decide) rfl c1.2.2.1 c2 ?_
  refine v_aload_n 3 0 rfl rfl rfl ?_
  refine v_iload_n 4 2 rfl rfl rfl ?_
  have c3 := h.1
  have h := h.2
  refine v_putI 5 rfl fl9_15_8 c1.1 c1.2.1 (by decide) rfl c1.2.2.2.1 c3 ?_
  refine v_aload_n 6 0 rfl rfl rfl ?_
  refine v_gK 7 rfl fl9_18_8.r c1.1 c1.2.1 (by decide) rfl (r := r0 + 1) c1.2.2.2.2.1 ?_
  refine v_lconst (v := 0) 8 rfl (by decide) ?_
  refine v_callS (st := []) [.ref (r0 + 1), L_ 0] 9 rfl ls9_22_lay rfl (Nat.lt_of_lt_of_le (by decide) hn) (Nat.le_refl _) (Nat.le_refl _) ?_
  exact h
set_option maxHeartbeats 8000000 in
set_option maxRecDepth 4000 in
theorem bX9_lay_18 {d n : Nat} {dy : Nat → Shp} {g : Hp} {P : Pst} {r0 : Nat} {x1 : Int} {x2 : Int} (hn : 100 ≤ n) (h : P none n (W0 dy) g) : V miX9_lay (d + 1) 18 [(0, .ref r0), (1, I_ x1), (2, I_ x2)] [] n (W0 dy) g 0 0 P := by
  exact v_ret (v := none) 10 rfl (Nat.zero_le _) (Nat.zero_le _) trivial rfl h
theorem wX9_lay {d n : Nat} {dy : Nat → Shp} {g : Hp} {P : Pst} {r0 : Nat} {x1 : Int} {x2 : Int} (hn : 100 ≤ n) (h : (Tr n (W0 dy) r0) ∧ (i3 x1) ∧ (i3 x2) ∧ Runs miJ7_fill_d0a16 d [.ref (r0 + 1), L_ 0] n (W0 dy) (up2 (up2 g r0 0 x1) r0 1 x2) (fun v n' S' g' => V miX9_lay (d + 1) 18 [(0, .ref r0), (1, I_ x1), (2, I_ x2)] (v.toList ++ []) n' S' g' 0 0 P)) : Runs miX9_lay (d + 1) [.ref r0, I_ x1, I_ x2] n (W0 dy) g P := Runs.of rfl rfl deX9_lay (Nat.le_of_ble_eq_true rfl) (bX9_lay_0 hn h)
set_option maxHeartbeats 8000000 in
set_option maxRecDepth 4000 in
theorem bX9_has_0 {d n : Nat} {dy : Nat → Shp} {g : Hp} {P : Pst} {r0 : Nat} {x1 : Int} (hn : 100 ≤ n) (h : (i3 x1) ∧ ((x1 < 0) → P (some (I_ 0)) n (W0 dy) g) ∧ ((0 ≤ x1) → (Tr n (W0 dy) r0) ∧ (((g r0 1) ≤ x1) → P (some (I_ 0)) n (W0 dy) g) ∧ ((x1 < (g r0 1)) → ((16 ≤ x1) → P (some (I_ 0)) n (W0 dy) g) ∧ ((x1 < 16) → P (some (I_ 1)) n (W0 dy) g)))) : V miX9_has d 0 [(0, .ref r0), (1, I_ x1)] [] n (W0 dy) g 0 0 P := by
  refine v_iload_n 0 1 rfl rfl rfl ?_
  have c1 := h.1
  have h := h.2
  refine v_if_lt 1 rfl (tgt := 25) rfl c1 (fun q2 => ?_) (fun q2 => ?_)
  · have h := h.1 q2
    refine v_iconst 13 rfl ?_
    exact v_ret (v := some (I_ 0)) 14 rfl (Nat.zero_le _) (Nat.zero_le _) (Or.inl rfl) rfl h
  · have h := h.2 q2
    refine v_iload_n 2 1 rfl rfl rfl ?_
    refine v_aload_n 3 0 rfl rfl rfl ?_
    have c3 := h.1
    have h := h.2
    refine v_gI 4 rfl fl9_15_8.r c3.1 c3.2.1 (by decide) rfl c3.2.2.2.1 (x := g r0 1) rfl ?_
    refine v_rng fun w4 => ?_
    have p5 : i3 (g r0 1) := rI w4 (q := 1) c3.1 c3.2.1 rfl rfl
    refine v_icmp_ge 5 rfl (tgt := 25) rfl c1 p5 (fun q6 => ?_) (fun q6 => ?_)
    · have h := h.1 q6
      refine v_iconst 13 rfl ?_
      exact v_ret (v := some (I_ 0)) 14 rfl (Nat.zero_le _) (Nat.zero_le _) (Or.inl rfl) rfl h
    · have h := h.2 q6
      refine v_iload_n 6 1 rfl rfl rfl ?_
      refine v_aload_n 7 0 rfl rfl rfl ?_
      refine v_gK 8 rfl fl9_18_8.r c3.1 c3.2.1 (by decide) rfl (r := r0 + 1) c3.2.2.2.2.1 ?_
      refine v_alen (N := 16) (t := 14) 9 rfl c3.2.2.2.2.2.1 c3.2.2.2.2.2.2.1 (by decide) (fun _ => rfl) c3.2.2.2.2.2.2.2 ?_
      refine v_icmp_ge 10 rfl (tgt := 25) rfl c1 (by decide) (fun q7 => ?_) (fun q7 => ?_)
      · have h := h.1 q7
        refine v_iconst 13 rfl ?_
        exact v_ret (v := some (I_ 0)) 14 rfl (Nat.zero_le _) (Nat.zero_le _) (Or.inl rfl) rfl h
      · have h := h.2 q7
        refine v_iconst 11 rfl ?_
        refine v_goto 12 rfl (tgt := 26) rfl ?_
        exact v_ret (v := some (I_ 1)) 14 rfl (Nat.zero_le _) (Nat.zero_le _) (Or.inr rfl) rfl h
theorem wX9_has {d n : Nat} {dy : Nat → Shp} {g : Hp} {P : Pst} {r0 : Nat} {x1 : Int} (hn : 100 ≤ n) (h : (i3 x1) ∧ ((x1 < 0) → P (some (I_ 0)) n (W0 dy) g) ∧ ((0 ≤ x1) → (Tr n (W0 dy) r0) ∧ (((g r0 1) ≤ x1) → P (some (I_ 0)) n (W0 dy) g) ∧ ((x1 < (g r0 1)) → ((16 ≤ x1) → P (some (I_ 0)) n (W0 dy) g) ∧ ((x1 < 16) → P (some (I_ 1)) n (W0 dy) g)))) : Runs miX9_has d [.ref r0, I_ x1] n (W0 dy) g P := Runs.of rfl rfl deX9_has (Nat.le_of_ble_eq_true rfl) (bX9_has_0 hn h)
set_option maxHeartbeats 8000000 in
set_option maxRecDepth 4000 in
theorem bX9_hasFrom_0 {d n : Nat} {dy : Nat → Shp} {g : Hp} {P : Pst} {r0 : Nat} {x1 : Int} {x2 : Int} (hn : 100 ≤ n) (h : (i3 x1) ∧ ((x1 < 0) → P (some (I_ 0)) n (W0 dy) g) ∧ ((0 ≤ x1) → (i3 x2) ∧ ((x2 < 0) → P (some (I_ 0)) n (W0 dy) g) ∧ ((0 ≤ x2) → (Tr n (W0 dy) r0) ∧ (i6 (x1 + x2)) ∧ (((g r0 1) < (x1 + x2)) → P (some (I_ 0)) n (W0 dy) g) ∧ (((x1 + x2) ≤ (g r0 1)) → P (some (I_ 1)) n (W0 dy) g)))) : V miX9_hasFrom d 0 [(0, .ref r0), (1, I_ x1), (2, I_ x2)] [] n (W0 dy) g 0 0 P := by
  refine v_iload_n 0 1 rfl rfl rfl ?_
  have c1 := h.1
  have h := h.2
  refine v_if_lt 1 rfl (tgt := 26) rfl c1 (fun q2 => ?_) (fun q2 => ?_)
  · have h := h.1 q2
    refine v_iconst 16 rfl ?_
    exact v_ret (v := some (I_ 0)) 17 rfl (Nat.zero_le _) (Nat.zero_le _) (Or.inl rfl) rfl h
  · have h := h.2 q2
    refine v_iload_n 2 2 rfl rfl rfl ?_
    have c3 := h.1
    have h := h.2
    refine v_if_lt 3 rfl (tgt := 26) rfl c3 (fun q4 => ?_) (fun q4 => ?_)
    · have h := h.1 q4
      refine v_iconst 16 rfl ?_
      exact v_ret (v := some (I_ 0)) 17 rfl (Nat.zero_le _) (Nat.zero_le _) (Or.inl rfl) rfl h
    · have h := h.2 q4
      refine v_iload_n 4 1 rfl rfl rfl ?_
      refine v_i2l 5 rfl c1 ?_
      refine v_iload_n 6 2 rfl rfl rfl ?_
      refine v_i2l 7 rfl c3 ?_
      refine v_ladd 8 rfl ?_
      refine v_aload_n 9 0 rfl rfl rfl ?_
      have c5 := h.1
      have h := h.2
      refine v_gI 10 rfl fl9_15_8.r c5.1 c5.2.1 (by decide) rfl c5.2.2.2.1 (x := g r0 1) rfl ?_
      refine v_rng fun w6 => ?_
      have p7 : i3 (g r0 1) := rI w6 (q := 1) c5.1 c5.2.1 rfl rfl
      refine v_i2l 11 rfl p7 ?_
      have c8 := h.1
      have h := h.2
      refine v_lif_gt 12 rfl rfl (tgt := 26) rfl c8 (i36 p7) (fun q9 => ?_) (fun q9 => ?_)
      · have h := h.1 q9
        refine v_iconst 16 rfl ?_
        exact v_ret (v := some (I_ 0)) 17 rfl (Nat.zero_le _) (Nat.zero_le _) (Or.inl rfl) rfl h
      · have h := h.2 q9
        refine v_iconst 14 rfl ?_
        refine v_goto 15 rfl (tgt := 27) rfl ?_
        exact v_ret (v := some (I_ 1)) 17 rfl (Nat.zero_le _) (Nat.zero_le _) (Or.inr rfl) rfl h
theorem wX9_hasFrom {d n : Nat} {dy : Nat → Shp} {g : Hp} {P : Pst} {r0 : Nat} {x1 : Int} {x2 : Int} (hn : 100 ≤ n) (h : (i3 x1) ∧ ((x1 < 0) → P (some (I_ 0)) n (W0 dy) g) ∧ ((0 ≤ x1) → (i3 x2) ∧ ((x2 < 0) → P (some (I_ 0)) n (W0 dy) g) ∧ ((0 ≤ x2) → (Tr n (W0 dy) r0) ∧ (i6 (x1 + x2)) ∧ (((g r0 1) < (x1 + x2)) → P (some (I_ 0)) n (W0 dy) g) ∧ (((x1 + x2) ≤ (g r0 1)) → P (some (I_ 1)) n (W0 dy) g)))) : Runs miX9_hasFrom d [.ref r0, I_ x1, I_ x2] n (W0 dy) g P := Runs.of rfl rfl deX9_hasFrom (Nat.le_of_ble_eq_true rfl) (bX9_hasFrom_0 hn h)
theorem lv9_28_at_8 : LkV miX9_at miX9_has 28 1 8 := ⟨⟨⟨tbG_in (List.mem_append_right _ (List.mem_of_getElem? (i := 297) (by decide +kernel))) rfl, tbG_in (List.mem_append_right _ (List.mem_of_getElem? (i := 8) (by decide +kernel))) rfl, tbG_in (List.mem_append_right _ (List.mem_of_getElem? (i := 302) (by decide +kernel))) rfl⟩, ⟨by decide +kernel, by decide +kernel, by decide +kernel⟩, by decide⟩, tbG_in (List.mem_append_right _ (List.mem_of_getElem? (i := 295) (by decide +kernel))) rfl, RX9, TX9, 3, rfl, tbG_in (List.mem_append_right _ (List.mem_of_getElem? (i := 296) (by decide +kernel))) rfl⟩
set_option maxHeartbeats 8000000 in
set_option maxRecDepth 4000 in
theorem bX9_at_0 {d n : Nat} {dy : Nat → Shp} {g : Hp} {P : Pst} {r0 : Nat} {x1 : Int} (hn : 100 ≤ n) (h : (Tr n (W0 dy) r0) ∧ Runs miX9_has d [.ref r0, I_ x1] n (W0 dy) g (fun v n' S' g' => V miX9_at (d + 1) 5 [(0, .ref r0), (1, I_ x1)] (v.toList ++ []) n' S' g' 0 0 P)) : V miX9_at (d + 1) 0 [(0, .ref r0), (1, I_ x1)] [] n (W0 dy) g 0 0 P := by
  refine v_aload_n 0 0 rfl rfl rfl ?_
  refine v_iload_n 1 1 rfl rfl rfl ?_
  have c1 := h.1
  have h := h.2
  refine v_callV (st := []) [I_ x1] 2 rfl lv9_28_at_8 c1.1 c1.2.1 (by decide) rfl (Nat.le_refl _) (Nat.le_refl _) ?_
  exact h
set_option maxHeartbeats 8000000 in
set_option maxRecDepth 4000 in
theorem bX9_at_5 {d n : Nat} {dy : Nat → Shp} {g : Hp} {P : Pst} {r0 : Nat} {x1 : Int} {xs0 : Int} (hn : 100 ≤ n) (h : (i3 xs0) ∧ ((xs0 = 0) → P (some (L_ ((-1)))) n (W0 dy) g) ∧ ((xs0 ≠ 0) → (Tr n (W0 dy) r0) ∧ (0 ≤ x1 ∧ x1 < 16) ∧ P (some (L_ (g (r0 + 1) x1.toNat))) n (W0 dy) g)) : V miX9_at (d + 1) 5 [(0, .ref r0), (1, I_ x1)] [I_ xs0] n (W0 dy) g 0 0 P := by
  have c1 := h.1
  have h := h.2
  refine v_if_eq 3 rfl (tgt := 17) rfl c1 (fun q2 => ?_) (fun q2 => ?_)
  · have h := h.1 q2
    refine v_ldc2 (v := (-1)) 9 rfl (tbG_in (List.mem_append_right _ (List.mem_of_getElem? (i := 311) (by decide +kernel))) rfl) ?_
    exact v_ret (v := some (L_ ((-1)))) 10 rfl (Nat.zero_le _) (Nat.zero_le _) trivial rfl h
  · have h := h.2 q2
    refine v_aload_n 4 0 rfl rfl rfl ?_
    have c3 := h.1
    have h := h.2
    refine v_gK 5 rfl fl9_18_8.r c3.1 c3.2.1 (by decide) rfl (r := r0 + 1) c3.2.2.2.2.1 ?_
    refine v_iload_n 6 1 rfl rfl rfl ?_
    have c4 := h.1
    have h := h.2
    refine v_la (N := 16) 7 rfl c3.2.2.2.2.2.1 c3.2.2.2.2.2.2.1 c3.2.2.2.2.2.2.2 (by decide) c4 (y := g (r0 + 1) x1.toNat) rfl ?_
    refine v_rng fun w5 => ?_
    have p6 : i6 (g (r0 + 1) x1.toNat) := rL w5 (q := x1.toNat) c3.2.2.2.2.2.1 c3.2.2.2.2.2.2.1 rfl rfl
    refine v_goto 8 rfl (tgt := 20) rfl ?_
    exact v_ret (v := some (L_ (g (r0 + 1) x1.toNat))) 10 rfl (Nat.zero_le _) (Nat.zero_le _) trivial rfl h
theorem wX9_at {d n : Nat} {dy : Nat → Shp} {g : Hp} {P : Pst} {r0 : Nat} {x1 : Int} (hn : 100 ≤ n) (h : (Tr n (W0 dy) r0) ∧ Runs miX9_has d [.ref r0, I_ x1] n (W0 dy) g (fun v n' S' g' => V miX9_at (d + 1) 5 [(0, .ref r0), (1, I_ x1)] (v.toList ++ []) n' S' g' 0 0 P)) : Runs miX9_at (d + 1) [.ref r0, I_ x1] n (W0 dy) g P := Runs.of rfl rfl deX9_at (Nat.le_of_ble_eq_true rfl) (bX9_at_0 hn h)
theorem lv9_28_put_8 : LkV miX9_put miX9_has 28 1 8 := ⟨⟨⟨tbG_in (List.mem_append_right _ (List.mem_of_getElem? (i := 297) (by decide +kernel))) rfl, tbG_in (List.mem_append_right _ (List.mem_of_getElem? (i := 8) (by decide +kernel))) rfl, tbG_in (List.mem_append_right _ (List.mem_of_getElem? (i := 302) (by decide +kernel))) rfl⟩, ⟨by decide +kernel, by decide +kernel, by decide +kernel⟩, by decide⟩, tbG_in (List.mem_append_right _ (List.mem_of_getElem? (i := 295) (by decide +kernel))) rfl, RX9, TX9, 3, rfl, tbG_in (List.mem_append_right _ (List.mem_of_getElem? (i := 296) (by decide +kernel))) rfl⟩
set_option maxHeartbeats 8000000 in
set_option maxRecDepth 4000 in
theorem bX9_put_0 {d n : Nat} {dy : Nat → Shp} {g : Hp} {P : Pst} {r0 : Nat} {x1 : Int} {x2 : Int} (hn : 100 ≤ n) (h : (Tr n (W0 dy) r0) ∧ Runs miX9_has d [.ref r0, I_ x1] n (W0 dy) g (fun v n' S' g' => V miX9_put (d + 1) 5 [(0, .ref r0), (1, I_ x1), (2, L_ x2)] (v.toList ++ []) n' S' g' 0 0 P)) : V miX9_put (d + 1) 0 [(0, .ref r0), (1, I_ x1), (2, L_ x2)] [] n (W0 dy) g 0 0 P := by
  refine v_aload_n 0 0 rfl rfl rfl ?_
  refine v_iload_n 1 1 rfl rfl rfl ?_
  have c1 := h.1
  have h := h.2
  refine v_callV (st := []) [I_ x1] 2 rfl lv9_28_put_8 c1.1 c1.2.1 (by decide) rfl (Nat.le_refl _) (Nat.le_refl _) ?_
  exact h
set_option maxHeartbeats 8000000 in
set_option maxRecDepth 4000 in
theorem bX9_put_5 {d n : Nat} {dy : Nat → Shp} {g : Hp} {P : Pst} {r0 : Nat} {x1 : Int} {x2 : Int} {xs0 : Int} (hn : 100 ≤ n) (h : (i3 xs0) ∧ ((xs0 = 0) → P none n (W0 dy) g) ∧ ((xs0 ≠ 0) → (Tr n (W0 dy) r0) ∧ (((g r0 0) ≠ 0) → (((g r0 0) ≠ 1) → (0 ≤ x1 ∧ x1 < 16) ∧ (i6 x2) ∧ P none n (W0 dy) (up2 g (r0 + 1) x1.toNat x2)) ∧ (((g r0 0) = 1) → (i3 x2) ∧ (0 ≤ x1 ∧ x1 < 16) ∧ P none n (W0 dy) (up2 g (r0 + 1) x1.toNat x2))) ∧ (((g r0 0) = 0) → (0 ≤ x1 ∧ x1 < 16) ∧ P none n (W0 dy) (up2 g (r0 + 1) x1.toNat (c2s x2))))) : V miX9_put (d + 1) 5 [(0, .ref r0), (1, I_ x1), (2, L_ x2)] [I_ xs0] n (W0 dy) g 0 0 P := by
  have c1 := h.1
  have h := h.2
  refine v_if_eq 3 rfl (tgt := 43) rfl c1 (fun q2 => ?_) (fun q2 => ?_)
  · have h := h.1 q2
    exact v_ret (v := none) 25 rfl (Nat.zero_le _) (Nat.zero_le _) trivial rfl h
  · have h := h.2 q2
    refine v_aload_n 4 0 rfl rfl rfl ?_
    have c3 := h.1
    have h := h.2
    refine v_gK 5 rfl fl9_18_8.r c3.1 c3.2.1 (by decide) rfl (r := r0 + 1) c3.2.2.2.2.1 ?_
    refine v_iload_n 6 1 rfl rfl rfl ?_
    refine v_aload_n 7 0 rfl rfl rfl ?_
    refine v_gI 8 rfl fl9_9_8.r c3.1 c3.2.1 (by decide) rfl c3.2.2.1 (x := g r0 0) rfl ?_
    refine v_rng fun w4 => ?_
    have p5 : i3 (g r0 0) := rI w4 (q := 0) c3.1 c3.2.1 rfl rfl
    refine v_if_ne 9 rfl (tgt := 27) rfl p5 (fun q6 => ?_) (fun q6 => ?_)
    · have h := h.1 q6
      refine v_aload_n 15 0 rfl rfl rfl ?_
      refine v_gI 16 rfl fl9_9_8.r c3.1 c3.2.1 (by decide) rfl c3.2.2.1 (x := g r0 0) rfl ?_
      refine v_rng fun w7 => ?_
      have p8 : i3 (g r0 0) := rI w7 (q := 0) c3.1 c3.2.1 rfl rfl
      refine v_iconst 17 rfl ?_
      refine v_icmp_ne 18 rfl (tgt := 41) rfl p8 (by decide) (fun q9 => ?_) (fun q9 => ?_)
      · have h := h.1 q9
        refine v_lload_n 23 2 rfl rfl rfl ?_
        have c10 := h.1
        have h := h.2
        have c11 := h.1
        have h := h.2
        refine v_last (N := 16) 24 rfl c3.2.2.2.2.2.1 c3.2.2.2.2.2.2.1 c3.2.2.2.2.2.2.2 (by decide) c10 c11 ?_
        exact v_ret (v := none) 25 rfl (Nat.zero_le _) (Nat.zero_le _) trivial rfl h
      · have h := h.2 q9
        refine v_lload_n 19 2 rfl rfl rfl ?_
        refine v_l2i 20 rfl ?_
        have c12 := h.1
        have h := h.2
        refine v_i2l 21 rfl c12 ?_
        refine v_goto 22 rfl (tgt := 42) rfl ?_
        have c13 := h.1
        have h := h.2
        refine v_last (N := 16) 24 rfl c3.2.2.2.2.2.1 c3.2.2.2.2.2.2.1 c3.2.2.2.2.2.2.2 (by decide) c13 (i36 c12) ?_
        exact v_ret (v := none) 25 rfl (Nat.zero_le _) (Nat.zero_le _) trivial rfl h
    · have h := h.2 q6
      refine v_lload_n 10 2 rfl rfl rfl ?_
      refine v_l2i 11 rfl ?_
      refine v_i2s 12 rfl ?_
      refine v_i2l 13 rfl (c2s_r _) ?_
      refine v_goto 14 rfl (tgt := 42) rfl ?_
      have c14 := h.1
      have h := h.2
      refine v_last (N := 16) 24 rfl c3.2.2.2.2.2.1 c3.2.2.2.2.2.2.1 c3.2.2.2.2.2.2.2 (by decide) c14 (i36 (c2s_r _)) ?_
      exact v_ret (v := none) 25 rfl (Nat.zero_le _) (Nat.zero_le _) trivial rfl h
theorem wX9_put {d n : Nat} {dy : Nat → Shp} {g : Hp} {P : Pst} {r0 : Nat} {x1 : Int} {x2 : Int} (hn : 100 ≤ n) (h : (Tr n (W0 dy) r0) ∧ Runs miX9_has d [.ref r0, I_ x1] n (W0 dy) g (fun v n' S' g' => V miX9_put (d + 1) 5 [(0, .ref r0), (1, I_ x1), (2, L_ x2)] (v.toList ++ []) n' S' g' 0 0 P)) : Runs miX9_put (d + 1) [.ref r0, I_ x1, L_ x2] n (W0 dy) g P := Runs.of rfl rfl deX9_put (Nat.le_of_ble_eq_true rfl) (bX9_put_0 hn h)
