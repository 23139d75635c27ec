theorem fl12_148_11 : FL RX12 148 11 1 false .int := ⟨RX12, TX12, 58, "MobileMakerModel", rfl, rfl, by decide, kf11, tbG_in (List.mem_append_right _ (List.mem_of_getElem? (i := 1128) (by decide +kernel))) rfl, Or.inl rfl, rfl, by decide +kernel, ⟨tyX12, tyX12_ok⟩, nmX12, fun h => by cases h⟩
set_option maxHeartbeats 8000000 in
set_option maxRecDepth 4000 in
theorem bX12_thrown_0 {d n : Nat} {dy : Nat → Shp} {g : Hp} {P : Pst}  (hn : 100 ≤ n) (h : P (some (I_ (g 53 1))) n (W0 dy) g) : V miX12_thrown d 0 [(0, .ref 53)] [] n (W0 dy) g 0 0 P := by
  refine v_aload_n 0 0 rfl rfl rfl ?_
  refine v_gI 1 rfl fl12_148_11.r (al 53 rfl hn) (wk53 dy) (by decide) rfl (wc53_1 dy) (x := g 53 1) rfl ?_
  refine v_rng fun w1 => ?_
  have p2 : i3 (g 53 1) := rI w1 (q := 1) (al 53 rfl hn) (wk53 dy) rfl rfl
  exact v_ret (v := some (I_ (g 53 1))) 2 rfl (Nat.zero_le _) (Nat.zero_le _) trivial rfl h
theorem wX12_thrown {d n : Nat} {dy : Nat → Shp} {g : Hp} {P : Pst}  (hn : 100 ≤ n) (h : P (some (I_ (g 53 1))) n (W0 dy) g) : Runs miX12_thrown d [.ref 53] n (W0 dy) g P := Runs.of rfl rfl deX12_thrown (Nat.le_of_ble_eq_true rfl) (bX12_thrown_0 hn h)
theorem fl12_152_11 : FL RX12 152 11 0 false .int := ⟨RX12, TX12, 58, "MobileMakerModel", rfl, rfl, by decide, kf11, tbG_in (List.mem_append_right _ (List.mem_of_getElem? (i := 1127) (by decide +kernel))) rfl, Or.inl rfl, rfl, by decide +kernel, ⟨tyX12, tyX12_ok⟩, nmX12, fun h => by cases h⟩
set_option maxHeartbeats 8000000 in
set_option maxRecDepth 4000 in
theorem bX12_status_0 {d n : Nat} {dy : Nat → Shp} {g : Hp} {P : Pst}  (hn : 100 ≤ n) (h : P (some (I_ (g 53 0))) n (W0 dy) (up2 g 53 1 0)) : V miX12_status d 0 [(0, .ref 53)] [] n (W0 dy) g 0 0 P := by
  refine v_aload_n 0 0 rfl rfl rfl ?_
  refine v_iconst 1 rfl ?_
  refine v_putI 2 rfl fl12_148_11 (al 53 rfl hn) (wk53 dy) (by decide) rfl (wc53_1 dy) (by decide) ?_
  refine v_aload_n 3 0 rfl rfl rfl ?_
  refine v_gI 4 rfl fl12_152_11.r (al 53 rfl hn) (wk53 dy) (by decide) rfl (wc53_0 dy) (x := g 53 0) rfl ?_
  refine v_rng fun w1 => ?_
  have p2 : i3 (g 53 0) := rI w1 (q := 0) (al 53 rfl hn) (wk53 dy) rfl rfl
  exact v_ret (v := some (I_ (g 53 0))) 5 rfl (Nat.zero_le _) (Nat.zero_le _) trivial rfl h
theorem wX12_status {d n : Nat} {dy : Nat → Shp} {g : Hp} {P : Pst}  (hn : 100 ≤ n) (h : P (some (I_ (g 53 0))) n (W0 dy) (up2 g 53 1 0)) : Runs miX12_status d [.ref 53] n (W0 dy) g P := Runs.of rfl rfl deX12_status (Nat.le_of_ble_eq_true rfl) (bX12_status_0 hn h)
set_option maxHeartbeats 8000000 in
set_option maxRecDepth 4000 in
theorem bX12_refuse_0 {d n : Nat} {dy : Nat → Shp} {g : Hp} {P : Pst} {x1 : Int} (hn : 100 ≤ n) (h : (i3 x1) ∧ P (some (I_ ((-1)))) n (W0 dy) (up2 g 53 0 x1)) : V miX12_refuse d 0 [(0, .ref 53), (1, I_ x1)] [] n (W0 dy) g 0 0 P := by
  refine v_aload_n 0 0 rfl rfl rfl ?_
  refine v_iload_n 1 1 rfl rfl rfl ?_
  have c1 := h.1
  have h := h.2
  refine v_putI 2 rfl fl12_152_11 (al 53 rfl hn) (wk53 dy) (by decide) rfl (wc53_0 dy) c1 ?_
  refine v_iconst 3 rfl ?_
  exact v_ret (v := some (I_ ((-1)))) 4 rfl (Nat.zero_le _) (Nat.zero_le _) trivial rfl h
theorem wX12_refuse {d n : Nat} {dy : Nat → Shp} {g : Hp} {P : Pst} {x1 : Int} (hn : 100 ≤ n) (h : (i3 x1) ∧ P (some (I_ ((-1)))) n (W0 dy) (up2 g 53 0 x1)) : Runs miX12_refuse d [.ref 53, I_ x1] n (W0 dy) g P := Runs.of rfl rfl deX12_refuse (Nat.le_of_ble_eq_true rfl) (bX12_refuse_0 hn h)
set_option maxHeartbeats 8000000 in
set_option maxRecDepth 4000 in
theorem bX12_no_0 {d n : Nat} {dy : Nat → Shp} {g : Hp} {P : Pst} {x1 : Int} (hn : 100 ≤ n) (h : (i3 x1) ∧ P (some (I_ 0)) n (W0 dy) (up2 g 53 0 x1)) : V miX12_no d 0 [(0, .ref 53), (1, I_ x1)] [] n (W0 dy) g 0 0 P := by
  refine v_aload_n 0 0 rfl rfl rfl ?_
  refine v_iload_n 1 1 rfl rfl rfl ?_
  have c1 := h.1
  have h := h.2
  refine v_putI 2 rfl fl12_152_11 (al 53 rfl hn) (wk53 dy) (by decide) rfl (wc53_0 dy) c1 ?_
  refine v_iconst 3 rfl ?_
  exact v_ret (v := some (I_ 0)) 4 rfl (Nat.zero_le _) (Nat.zero_le _) (Or.inl rfl) rfl h
theorem wX12_no {d n : Nat} {dy : Nat → Shp} {g : Hp} {P : Pst} {x1 : Int} (hn : 100 ≤ n) (h : (i3 x1) ∧ P (some (I_ 0)) n (W0 dy) (up2 g 53 0 x1)) : Runs miX12_no d [.ref 53, I_ x1] n (W0 dy) g P := Runs.of rfl rfl deX12_no (Nat.le_of_ble_eq_true rfl) (bX12_no_0 hn h)
set_option maxHeartbeats 8000000 in
set_option maxRecDepth 4000 in
theorem bX12_cut_0 {d n : Nat} {dy : Nat → Shp} {g : Hp} {P : Pst} {x0 : Int} {x1 : Int} (hn : 100 ≤ n) (h : (i3 x0) ∧ ((x0 ≠ 0) → ((x0 ≠ 1) → P (some (L_ x1)) n (W0 dy) g) ∧ ((x0 = 1) → (i3 x1) ∧ P (some (L_ x1)) n (W0 dy) g)) ∧ ((x0 = 0) → P (some (L_ (c2s x1))) n (W0 dy) g)) : V miX12_cut d 0 [(0, I_ x0), (1, L_ x1)] [] n (W0 dy) g 0 0 P := by
  refine v_iload_n 0 0 rfl rfl rfl ?_
  have c1 := h.1
  have h := h.2
  refine v_if_ne 1 rfl (tgt := 11) rfl c1 (fun q2 => ?_) (fun q2 => ?_)
  · have h := h.1 q2
    refine v_iload_n 7 0 rfl rfl rfl ?_
    refine v_iconst 8 rfl ?_
    refine v_icmp_ne 9 rfl (tgt := 22) rfl c1 (by decide) (fun q3 => ?_) (fun q3 => ?_)
    · have h := h.1 q3
      refine v_lload_n 14 1 rfl rfl rfl ?_
      exact v_ret (v := some (L_ x1)) 15 rfl (Nat.zero_le _) (Nat.zero_le _) trivial rfl h
    · have h := h.2 q3
      refine v_lload_n 10 1 rfl rfl rfl ?_
      refine v_l2i 11 rfl ?_
      have c4 := h.1
      have h := h.2
      refine v_i2l 12 rfl c4 ?_
      refine v_goto 13 rfl (tgt := 23) rfl ?_
      exact v_ret (v := some (L_ x1)) 15 rfl (Nat.zero_le _) (Nat.zero_le _) trivial rfl h
  · have h := h.2 q2
    refine v_lload_n 2 1 rfl rfl rfl ?_
    refine v_l2i 3 rfl ?_
    refine v_i2s 4 rfl ?_
    refine v_i2l 5 rfl (c2s_r _) ?_
    refine v_goto 6 rfl (tgt := 23) rfl ?_
    exact v_ret (v := some (L_ (c2s x1))) 15 rfl (Nat.zero_le _) (Nat.zero_le _) trivial rfl h
theorem wX12_cut {d n : Nat} {dy : Nat → Shp} {g : Hp} {P : Pst} {x0 : Int} {x1 : Int} (hn : 100 ≤ n) (h : (i3 x0) ∧ ((x0 ≠ 0) → ((x0 ≠ 1) → P (some (L_ x1)) n (W0 dy) g) ∧ ((x0 = 1) → (i3 x1) ∧ P (some (L_ x1)) n (W0 dy) g)) ∧ ((x0 = 0) → P (some (L_ (c2s x1))) n (W0 dy) g)) : Runs miX12_cut d [I_ x0, L_ x1] n (W0 dy) g P := Runs.of rfl rfl deX12_cut (Nat.le_of_ble_eq_true rfl) (bX12_cut_0 hn h)
theorem fl12_7_11 : FL RX12 7 11 2 true (.array .int) := ⟨RX12, TX12, 58, "MobileMakerModel", rfl, rfl, by decide, kf11, tbG_in (List.mem_append_right _ (List.mem_of_getElem? (i := 1129) (by decide +kernel))) rfl, Or.inl rfl, rfl, by decide +kernel, ⟨tyX12, tyX12_ok⟩, nmX12, fun _ => rfl⟩
theorem fl12_13_11 : FL RX12 13 11 3 true (.array .int) := ⟨RX12, TX12, 58, "MobileMakerModel", rfl, rfl, by decide, kf11, tbG_in (List.mem_append_right _ (List.mem_of_getElem? (i := 1130) (by decide +kernel))) rfl, Or.inl rfl, rfl, by decide +kernel, ⟨tyX12, tyX12_ok⟩, nmX12, fun _ => rfl⟩
theorem fl12_16_11 : FL RX12 16 11 4 true (.array .long) := ⟨RX12, TX12, 58, "MobileMakerModel", rfl, rfl, by decide, kf11, tbG_in (List.mem_append_right _ (List.mem_of_getElem? (i := 1131) (by decide +kernel))) rfl, Or.inl rfl, rfl, by decide +kernel, ⟨tyX12, tyX12_ok⟩, nmX12, fun _ => rfl⟩
theorem lv12_155_tray_11 : LkV miX12_tray miX12_no 155 1 11 := ⟨⟨⟨tbG_in (List.mem_append_right _ (List.mem_of_getElem? (i := 1318) (by decide +kernel))) rfl, tbG_in (List.mem_append_right _ (List.mem_of_getElem? (i := 9) (by decide +kernel))) rfl, tbG_in (List.mem_append_right _ (List.mem_of_getElem? (i := 1315) (by decide +kernel))) rfl⟩, ⟨by decide +kernel, by decide +kernel, by decide +kernel⟩, by decide⟩, tbG_in (List.mem_append_right _ (List.mem_of_getElem? (i := 1317) (by decide +kernel))) rfl, RX12, TX12, 58, rfl, tbG_in (List.mem_append_left _ (List.mem_of_getElem? (i := 47) (by decide +kernel))) rfl⟩
set_option maxHeartbeats 8000000 in
set_option maxRecDepth 4000 in
theorem bX12_tray_0 {d n : Nat} {dy : Nat → Shp} {g : Hp} {P : Pst} {x1 : Int} {x2 : Int} {x3 : Int} (hn : 100 ≤ n) (h : (i3 x1) ∧ ((x1 < 0) → Runs miX12_no d [.ref 53, I_ 1] n (W0 dy) (up2 (up2 g 53 1 0) 53 0 0) (fun v n' S' g' => V miX12_tray (d + 1) 34 [(0, .ref 53), (1, I_ x1), (2, I_ x2), (3, I_ x3)] (v.toList ++ []) n' S' g' 0 0 P)) ∧ ((0 ≤ x1) → ((6 ≤ x1) → Runs miX12_no d [.ref 53, I_ 1] n (W0 dy) (up2 (up2 g 53 1 0) 53 0 0) (fun v n' S' g' => V miX12_tray (d + 1) 34 [(0, .ref 53), (1, I_ x1), (2, I_ x2), (3, I_ x3)] (v.toList ++ []) n' S' g' 0 0 P)) ∧ ((x1 < 6) → (i3 x2) ∧ ((x2 < 0) → Runs miX12_no d [.ref 53, I_ 1] n (W0 dy) (up2 (up2 g 53 1 0) 53 0 0) (fun v n' S' g' => V miX12_tray (d + 1) 34 [(0, .ref 53), (1, I_ x1), (2, I_ x2), (3, I_ x3)] (v.toList ++ []) n' S' g' 0 0 P)) ∧ ((0 ≤ x2) → ((x2 ≤ 2) → (i3 x3) ∧ ((0 ≤ x3) → ((x3 ≤ 16) → (0 ≤ x1 ∧ x1 < 6) ∧ V miX12_tray (d + 1) 76 [(0, .ref 53), (1, I_ x1), (2, I_ x2), (3, I_ x3), (4, I_ 0)] [] n (W0 dy) (up2 (up2 (up2 (up2 g 53 1 0) 53 0 0) 54 x1.toNat x2) 55 x1.toNat x3) 0 0 P) ∧ ((16 < x3) → Runs miX12_no d [.ref 53, I_ 7] n (W0 dy) (up2 (up2 g 53 1 0) 53 0 0) (fun v n' S' g' => V miX12_tray (d + 1) 58 [(0, .ref 53), (1, I_ x1), (2, I_ x2), (3, I_ x3)] (v.toList ++ []) n' S' g' 0 0 P))) ∧ ((x3 < 0) → Runs miX12_no d [.ref 53, I_ 6] n (W0 dy) (up2 (up2 g 53 1 0) 53 0 0) (fun v n' S' g' => V miX12_tray (d + 1) 45 [(0, .ref 53), (1, I_ x1), (2, I_ x2), (3, I_ x3)] (v.toList ++ []) n' S' g' 0 0 P))) ∧ ((2 < x2) → Runs miX12_no d [.ref 53, I_ 1] n (W0 dy) (up2 (up2 g 53 1 0) 53 0 0) (fun v n' S' g' => V miX12_tray (d + 1) 34 [(0, .ref 53), (1, I_ x1), (2, I_ x2), (3, I_ x3)] (v.toList ++ []) n' S' g' 0 0 P)))))) : V miX12_tray (d + 1) 0 [(0, .ref 53), (1, I_ x1), (2, I_ x2), (3, I_ x3)] [] n (W0 dy) g 0 0 P := by
  refine v_aload_n 0 0 rfl rfl rfl ?_
  refine v_iconst 1 rfl ?_
  refine v_putI 2 rfl fl12_148_11 (al 53 rfl hn) (wk53 dy) (by decide) rfl (wc53_1 dy) (by decide) ?_
  refine v_aload_n 3 0 rfl rfl rfl ?_
  refine v_iconst 4 rfl ?_
  refine v_putI 5 rfl fl12_152_11 (al 53 rfl hn) (wk53 dy) (by decide) rfl (wc53_0 dy) (by decide) ?_
  refine v_iload_n 6 1 rfl rfl rfl ?_
  have c1 := h.1
  have h := h.2
  refine v_if_lt 7 rfl (tgt := 29) rfl c1 (fun q2 => ?_) (fun q2 => ?_)
  · have h := h.1 q2
    refine v_aload_n 16 0 rfl rfl rfl ?_
    refine v_iconst 17 rfl ?_
    refine v_callV (st := []) [I_ 1] 18 rfl lv12_155_tray_11 (al 53 rfl hn) (wk53 dy) (by decide) rfl (Nat.le_refl _) (Nat.le_refl _) ?_
    exact h
  · have h := h.2 q2
    refine v_iload_n 8 1 rfl rfl rfl ?_
    refine v_bipush 9 rfl (by decide) ?_
    refine v_icmp_ge 10 rfl (tgt := 29) rfl c1 (by decide) (fun q3 => ?_) (fun q3 => ?_)
    · have h := h.1 q3
      refine v_aload_n 16 0 rfl rfl rfl ?_
      refine v_iconst 17 rfl ?_
      refine v_callV (st := []) [I_ 1] 18 rfl lv12_155_tray_11 (al 53 rfl hn) (wk53 dy) (by decide) rfl (Nat.le_refl _) (Nat.le_refl _) ?_
      exact h
    · have h := h.2 q3
      refine v_iload_n 11 2 rfl rfl rfl ?_
      have c4 := h.1
      have h := h.2
      refine v_if_lt 12 rfl (tgt := 29) rfl c4 (fun q5 => ?_) (fun q5 => ?_)
      · have h := h.1 q5
        refine v_aload_n 16 0 rfl rfl rfl ?_
        refine v_iconst 17 rfl ?_
        refine v_callV (st := []) [I_ 1] 18 rfl lv12_155_tray_11 (al 53 rfl hn) (wk53 dy) (by decide) rfl (Nat.le_refl _) (Nat.le_refl _) ?_
        exact h
      · have h := h.2 q5
        refine v_iload_n 13 2 rfl rfl rfl ?_
        refine v_iconst 14 rfl ?_
        refine v_icmp_le 15 rfl (tgt := 35) rfl c4 (by decide) (fun q6 => ?_) (fun q6 => ?_)
        · have h := h.1 q6
          refine v_iload_n 20 3 rfl rfl rfl ?_
          have c7 := h.1
          have h := h.2
          refine v_if_ge 21 rfl (tgt := 46) rfl c7 (fun q8 => ?_) (fun q8 => ?_)
          · have h := h.1 q8
            refine v_iload_n 26 3 rfl rfl rfl ?_
            refine v_bipush 27 rfl (by decide) ?_
            refine v_icmp_le 28 rfl (tgt := 59) rfl c7 (by decide) (fun q9 => ?_) (fun q9 => ?_)
            · have h := h.1 q9
              refine v_aload_n 33 0 rfl rfl rfl ?_
              refine v_gK 34 rfl fl12_7_11.r (al 53 rfl hn) (wk53 dy) (by decide) rfl (r := 54) (wc53_2 dy) ?_
              refine v_iload_n 35 1 rfl rfl rfl ?_
              refine v_iload_n 36 2 rfl rfl rfl ?_
              have c10 := h.1
              have h := h.2
              refine v_iast (N := 6) 37 rfl (al 54 rfl hn) (wk54 dy) (wn54 dy) (by decide) c10 c4 ?_
              refine v_aload_n 38 0 rfl rfl rfl ?_
              refine v_gK 39 rfl fl12_13_11.r (al 53 rfl hn) (wk53 dy) (by decide) rfl (r := 55) (wc53_3 dy) ?_
              refine v_iload_n 40 1 rfl rfl rfl ?_
              refine v_iload_n 41 3 rfl rfl rfl ?_
              refine v_iast (N := 6) 42 rfl (al 55 rfl hn) (wk55 dy) (wn55 dy) (by decide) c10 c7 ?_
              refine v_iconst 43 rfl ?_
              refine v_istore 44 [1, 2, 3, 4, 0] rfl (by decide) rfl ?_
              exact h
            · have h := h.2 q9
              refine v_aload_n 29 0 rfl rfl rfl ?_
              refine v_bipush 30 rfl (by decide) ?_
              refine v_callV (st := []) [I_ 7] 31 rfl lv12_155_tray_11 (al 53 rfl hn) (wk53 dy) (by decide) rfl (Nat.le_refl _) (Nat.le_refl _) ?_
              exact h
          · have h := h.2 q8
            refine v_aload_n 22 0 rfl rfl rfl ?_
            refine v_bipush 23 rfl (by decide) ?_
            refine v_callV (st := []) [I_ 6] 24 rfl lv12_155_tray_11 (al 53 rfl hn) (wk53 dy) (by decide) rfl (Nat.le_refl _) (Nat.le_refl _) ?_
            exact h
        · have h := h.2 q6
          refine v_aload_n 16 0 rfl rfl rfl ?_
          refine v_iconst 17 rfl ?_
          refine v_callV (st := []) [I_ 1] 18 rfl lv12_155_tray_11 (al 53 rfl hn) (wk53 dy) (by decide) rfl (Nat.le_refl _) (Nat.le_refl _) ?_
          exact h
set_option maxHeartbeats 8000000 in
set_option maxRecDepth 4000 in
theorem bX12_tray_34 {d n : Nat} {dy : Nat → Shp} {g : Hp} {P : Pst} {x1 : Int} {x2 : Int} {x3 : Int} {xs0 : Int} (hn : 100 ≤ n) (h : (xs0 = 0 ∨ xs0 = 1) ∧ P (some (I_ xs0)) n (W0 dy) g) : V miX12_tray (d + 1) 34 [(0, .ref 53), (1, I_ x1), (2, I_ x2), (3, I_ x3)] [I_ xs0] n (W0 dy) g 0 0 P := by
  have c1 := h.1
  have h := h.2
  exact v_ret (v := some (I_ xs0)) 19 rfl (Nat.zero_le _) (Nat.zero_le _) (rokZ c1) rfl h
set_option maxHeartbeats 8000000 in
set_option maxRecDepth 4000 in
theorem bX12_tray_45 {d n : Nat} {dy : Nat → Shp} {g : Hp} {P : Pst} {x1 : Int} {x2 : Int} {x3 : Int} {xs0 : Int} (hn : 100 ≤ n) (h : (xs0 = 0 ∨ xs0 = 1) ∧ P (some (I_ xs0)) n (W0 dy) g) : V miX12_tray (d + 1) 45 [(0, .ref 53), (1, I_ x1), (2, I_ x2), (3, I_ x3)] [I_ xs0] n (W0 dy) g 0 0 P := by
  have c1 := h.1
  have h := h.2
  exact v_ret (v := some (I_ xs0)) 25 rfl (Nat.zero_le _) (Nat.zero_le _) (rokZ c1) rfl h
set_option maxHeartbeats 8000000 in
set_option maxRecDepth 4000 in
theorem bX12_tray_58 {d n : Nat} {dy : Nat → Shp} {g : Hp} {P : Pst} {x1 : Int} {x2 : Int} {x3 : Int} {xs0 : Int} (hn : 100 ≤ n) (h : (xs0 = 0 ∨ xs0 = 1) ∧ P (some (I_ xs0)) n (W0 dy) g) : V miX12_tray (d + 1) 58 [(0, .ref 53), (1, I_ x1), (2, I_ x2), (3, I_ x3)] [I_ xs0] n (W0 dy) g 0 0 P := by
  have c1 := h.1
  have h := h.2
  exact v_ret (v := some (I_ xs0)) 32 rfl (Nat.zero_le _) (Nat.zero_le _) (rokZ c1) rfl h
set_option maxHeartbeats 8000000 in
set_option maxRecDepth 4000 in
theorem bX12_tray_76 {d n : Nat} {dy : Nat → Shp} {g : Hp} {P : Pst} {x1 : Int} {x2 : Int} {x3 : Int} {x4 : Int} (hn : 100 ≤ n) (h : (i3 x4) ∧ (i3 x3) ∧ ((x3 ≤ x4) → P (some (I_ 1)) n (W0 dy) g) ∧ ((x4 < x3) → (0 ≤ (16 * x1) + x4 ∧ (16 * x1) + x4 < 96) ∧ V miX12_tray (d + 1) 76 [(0, .ref 53), (1, I_ x1), (2, I_ x2), (3, I_ x3), (4, I_ (x4 + 1))] [] n (W0 dy) (up2 g 56 (((16 * x1) + x4).toNat) 0) 0 0 P)) : V miX12_tray (d + 1) 76 [(0, .ref 53), (1, I_ x1), (2, I_ x2), (3, I_ x3), (4, I_ x4)] [] n (W0 dy) g 0 0 P := by
  refine v_iload 45 4 rfl rfl ?_
  refine v_iload_n 46 3 rfl rfl rfl ?_
  have c1 := h.1
  have h := h.2
  have c2 := h.1
  have h := h.2
  refine v_icmp_ge 47 rfl (tgt := 101) rfl c1 c2 (fun q3 => ?_) (fun q3 => ?_)
  · have h := h.1 q3
    refine v_iconst 59 rfl ?_
    exact v_ret (v := some (I_ 1)) 60 rfl (Nat.zero_le _) (Nat.zero_le _) (Or.inr rfl) rfl h
  · have h := h.2 q3
    refine v_aload_n 48 0 rfl rfl rfl ?_
    refine v_gK 49 rfl fl12_16_11.r (al 53 rfl hn) (wk53 dy) (by decide) rfl (r := 56) (wc53_4 dy) ?_
    refine v_bipush 50 rfl (by decide) ?_
    refine v_iload_n 51 1 rfl rfl rfl ?_
    refine v_imul 52 rfl ?_
    refine v_iload 53 4 rfl rfl ?_
    refine v_iadd 54 rfl ?_
    refine v_lconst (v := 0) 55 rfl (by decide) ?_
    have c4 := h.1
    have h := h.2
    refine v_last (N := 96) 56 rfl (al 56 rfl hn) (wk56 dy) (wn56 dy) (by decide) c4 (by decide) ?_
    refine v_iinc 57 4 [1, 2, 3, 4, 0] rfl rfl (by decide) rfl ?_
    refine v_goto 58 rfl (tgt := 76) rfl ?_
    exact h
theorem wX12_tray {d n : Nat} {dy : Nat → Shp} {g : Hp} {P : Pst} {x1 : Int} {x2 : Int} {x3 : Int} (hn : 100 ≤ n) (h : (i3 x1) ∧ ((x1 < 0) → Runs miX12_no d [.ref 53, I_ 1] n (W0 dy) (up2 (up2 g 53 1 0) 53 0 0) (fun v n' S' g' => V miX12_tray (d + 1) 34 [(0, .ref 53), (1, I_ x1), (2, I_ x2), (3, I_ x3)] (v.toList ++ []) n' S' g' 0 0 P)) ∧ ((0 ≤ x1) → ((6 ≤ x1) → Runs miX12_no d [.ref 53, I_ 1] n (W0 dy) (up2 (up2 g 53 1 0) 53 0 0) (fun v n' S' g' => V miX12_tray (d + 1) 34 [(0, .ref 53), (1, I_ x1), (2, I_ x2), (3, I_ x3)] (v.toList ++ []) n' S' g' 0 0 P)) ∧ ((x1 < 6) → (i3 x2) ∧ ((x2 < 0) → Runs miX12_no d [.ref 53, I_ 1] n (W0 dy) (up2 (up2 g 53 1 0) 53 0 0) (fun v n' S' g' => V miX12_tray (d + 1) 34 [(0, .ref 53), (1, I_ x1), (2, I_ x2), (3, I_ x3)] (v.toList ++ []) n' S' g' 0 0 P)) ∧ ((0 ≤ x2) → ((x2 ≤ 2) → (i3 x3) ∧ ((0 ≤ x3) → ((x3 ≤ 16) → (0 ≤ x1 ∧ x1 < 6) ∧ V miX12_tray (d + 1) 76 [(0, .ref 53), (1, I_ x1), (2, I_ x2), (3, I_ x3), (4, I_ 0)] [] n (W0 dy) (up2 (up2 (up2 (up2 g 53 1 0) 53 0 0) 54 x1.toNat x2) 55 x1.toNat x3) 0 0 P) ∧ ((16 < x3) → Runs miX12_no d [.ref 53, I_ 7] n (W0 dy) (up2 (up2 g 53 1 0) 53 0 0) (fun v n' S' g' => V miX12_tray (d + 1) 58 [(0, .ref 53), (1, I_ x1), (2, I_ x2), (3, I_ x3)] (v.toList ++ []) n' S' g' 0 0 P))) ∧ ((x3 < 0) → Runs miX12_no d [.ref 53, I_ 6] n (W0 dy) (up2 (up2 g 53 1 0) 53 0 0) (fun v n' S' g' => V miX12_tray (d + 1) 45 [(0, .ref 53), (1, I_ x1), (2, I_ x2), (3, I_ x3)] (v.toList ++ []) n' S' g' 0 0 P))) ∧ ((2 < x2) → Runs miX12_no d [.ref 53, I_ 1] n (W0 dy) (up2 (up2 g 53 1 0) 53 0 0) (fun v n' S' g' => V miX12_tray (d + 1) 34 [(0, .ref 53), (1, I_ x1), (2, I_ x2), (3, I_ x3)] (v.toList ++ []) n' S' g' 0 0 P)))))) : Runs miX12_tray (d + 1) [.ref 53, I_ x1, I_ x2, I_ x3] n (W0 dy) g P := Runs.of rfl rfl deX12_tray (Nat.le_of_ble_eq_true rfl) (bX12_tray_0 hn h)
set_option maxHeartbeats 8000000 in
set_option maxRecDepth 4000 in
theorem bX12_placed_0 {d n : Nat} {dy : Nat → Shp} {g : Hp} {P : Pst} {x1 : Int} {x2 : Int} (hn : 100 ≤ n) (h : (i3 x1) ∧ ((x1 < 0) → P (some (I_ 1)) n (W0 dy) g) ∧ ((0 ≤ x1) → ((x1 < 6) → (0 ≤ x1 ∧ x1 < 6) ∧ ((0 ≤ (g 55 x1.toNat)) → (i3 x2) ∧ ((x2 < 0) → P (some (I_ 4)) n (W0 dy) g) ∧ ((0 ≤ x2) → ((x2 < (g 55 x1.toNat)) → P (some (I_ 0)) n (W0 dy) g) ∧ (((g 55 x1.toNat) ≤ x2) → P (some (I_ 4)) n (W0 dy) g))) ∧ (((g 55 x1.toNat) < 0) → P (some (I_ 3)) n (W0 dy) g)) ∧ ((6 ≤ x1) → P (some (I_ 1)) n (W0 dy) g))) : V miX12_placed d 0 [(0, .ref 53), (1, I_ x1), (2, I_ x2)] [] n (W0 dy) g 0 0 P := by
  refine v_iload_n 0 1 rfl rfl rfl ?_
  have c1 := h.1
  have h := h.2
  refine v_if_lt 1 rfl (tgt := 10) rfl c1 (fun q2 => ?_) (fun q2 => ?_)
  · have h := h.1 q2
    refine v_iconst 5 rfl ?_
    exact v_ret (v := some (I_ 1)) 6 rfl (Nat.zero_le _) (Nat.zero_le _) trivial rfl h
  · have h := h.2 q2
    refine v_iload_n 2 1 rfl rfl rfl ?_
    refine v_bipush 3 rfl (by decide) ?_
    refine v_icmp_lt 4 rfl (tgt := 12) rfl c1 (by decide) (fun q3 => ?_) (fun q3 => ?_)
    · have h := h.1 q3
      refine v_aload_n 7 0 rfl rfl rfl ?_
      refine v_gK 8 rfl fl12_13_11.r (al 53 rfl hn) (wk53 dy) (by decide) rfl (r := 55) (wc53_3 dy) ?_
      refine v_iload_n 9 1 rfl rfl rfl ?_
      have c4 := h.1
      have h := h.2
      refine v_ia (N := 6) 10 rfl (al 55 rfl hn) (wk55 dy) (wn55 dy) (by decide) c4 (y := g 55 x1.toNat) rfl ?_
      refine v_rng fun w5 => ?_
      have p6 : i3 (g 55 x1.toNat) := rI w5 (q := x1.toNat) (al 55 rfl hn) (wk55 dy) rfl rfl
      refine v_if_ge 11 rfl (tgt := 25) rfl p6 (fun q7 => ?_) (fun q7 => ?_)
      · have h := h.1 q7
        refine v_iload_n 14 2 rfl rfl rfl ?_
        have c8 := h.1
        have h := h.2
        refine v_if_lt 15 rfl (tgt := 39) rfl c8 (fun q9 => ?_) (fun q9 => ?_)
        · have h := h.1 q9
          refine v_iconst 22 rfl ?_
          refine v_goto 23 rfl (tgt := 44) rfl ?_
          exact v_ret (v := some (I_ 4)) 25 rfl (Nat.zero_le _) (Nat.zero_le _) trivial rfl h
        · have h := h.2 q9
          refine v_iload_n 16 2 rfl rfl rfl ?_
          refine v_aload_n 17 0 rfl rfl rfl ?_
          refine v_gK 18 rfl fl12_13_11.r (al 53 rfl hn) (wk53 dy) (by decide) rfl (r := 55) (wc53_3 dy) ?_
          refine v_iload_n 19 1 rfl rfl rfl ?_
          refine v_ia (N := 6) 20 rfl (al 55 rfl hn) (wk55 dy) (wn55 dy) (by decide) c4 (y := g 55 x1.toNat) rfl ?_
          refine v_rng fun w10 => ?_
          have p11 : i3 (g 55 x1.toNat) := rI w10 (q := x1.toNat) (al 55 rfl hn) (wk55 dy) rfl rfl
          refine v_icmp_lt 21 rfl (tgt := 43) rfl c8 p11 (fun q12 => ?_) (fun q12 => ?_)
          · have h := h.1 q12
            refine v_iconst 24 rfl ?_
            exact v_ret (v := some (I_ 0)) 25 rfl (Nat.zero_le _) (Nat.zero_le _) trivial rfl h
          · have h := h.2 q12
            refine v_iconst 22 rfl ?_
            refine v_goto 23 rfl (tgt := 44) rfl ?_
            exact v_ret (v := some (I_ 4)) 25 rfl (Nat.zero_le _) (Nat.zero_le _) trivial rfl h
      · have h := h.2 q7
        refine v_iconst 12 rfl ?_
        refine v_goto 13 rfl (tgt := 44) rfl ?_
        exact v_ret (v := some (I_ 3)) 25 rfl (Nat.zero_le _) (Nat.zero_le _) trivial rfl h
    · have h := h.2 q3
      refine v_iconst 5 rfl ?_
      exact v_ret (v := some (I_ 1)) 6 rfl (Nat.zero_le _) (Nat.zero_le _) trivial rfl h
theorem wX12_placed {d n : Nat} {dy : Nat → Shp} {g : Hp} {P : Pst} {x1 : Int} {x2 : Int} (hn : 100 ≤ n) (h : (i3 x1) ∧ ((x1 < 0) → P (some (I_ 1)) n (W0 dy) g) ∧ ((0 ≤ x1) → ((x1 < 6) → (0 ≤ x1 ∧ x1 < 6) ∧ ((0 ≤ (g 55 x1.toNat)) → (i3 x2) ∧ ((x2 < 0) → P (some (I_ 4)) n (W0 dy) g) ∧ ((0 ≤ x2) → ((x2 < (g 55 x1.toNat)) → P (some (I_ 0)) n (W0 dy) g) ∧ (((g 55 x1.toNat) ≤ x2) → P (some (I_ 4)) n (W0 dy) g))) ∧ (((g 55 x1.toNat) < 0) → P (some (I_ 3)) n (W0 dy) g)) ∧ ((6 ≤ x1) → P (some (I_ 1)) n (W0 dy) g))) : Runs miX12_placed d [.ref 53, I_ x1, I_ x2] n (W0 dy) g P := Runs.of rfl rfl deX12_placed (Nat.le_of_ble_eq_true rfl) (bX12_placed_0 hn h)
theorem lv12_159_write_11 : LkV miX12_write miX12_placed 159 2 11 := ⟨⟨⟨tbG_in (List.mem_append_right _ (List.mem_of_getElem? (i := 1326) (by decide +kernel))) rfl, tbG_in (List.mem_append_right _ (List.mem_of_getElem? (i := 9) (by decide +kernel))) rfl, tbG_in (List.mem_append_right _ (List.mem_of_getElem? (i := 1323) (by decide +kernel))) rfl⟩, ⟨by decide +kernel, by decide +kernel, by decide +kernel⟩, by decide⟩, tbG_in (List.mem_append_right _ (List.mem_of_getElem? (i := 1325) (by decide +kernel))) rfl, RX12, TX12, 58, rfl, tbG_in (List.mem_append_left _ (List.mem_of_getElem? (i := 48) (by decide +kernel))) rfl⟩
theorem ls12_163_write : LkS miX12_write miX12_cut 163 2 := ⟨⟨⟨tbG_in (List.mem_append_right _ (List.mem_of_getElem? (i := 1329) (by decide +kernel))) rfl, tbG_in (List.mem_append_right _ (List.mem_of_getElem? (i := 9) (by decide +kernel))) rfl, tbG_in (List.mem_append_right _ (List.mem_of_getElem? (i := 1327) (by decide +kernel))) rfl⟩, ⟨by decide +kernel, by decide +kernel, by decide +kernel⟩, by decide⟩, tbG_in (List.mem_append_right _ (List.mem_of_getElem? (i := 1328) (by decide +kernel))) rfl⟩
set_option maxHeartbeats 8000000 in
set_option maxRecDepth 4000 in
theorem bX12_write_0 {d n : Nat} {dy : Nat → Shp} {g : Hp} {P : Pst} {x1 : Int} {x2 : Int} {x3 : Int} (hn : 100 ≤ n) (h : Runs miX12_placed d [.ref 53, I_ x1, I_ x2] n (W0 dy) (up2 g 53 1 0) (fun v n' S' g' => V miX12_write (d + 1) 12 [(0, .ref 53), (1, I_ x1), (2, I_ x2), (3, L_ x3)] (v.toList ++ [.ref 53]) n' S' g' 0 0 P)) : V miX12_write (d + 1) 0 [(0, .ref 53), (1, I_ x1), (2, I_ x2), (3, L_ x3)] [] n (W0 dy) g 0 0 P := by
  refine v_aload_n 0 0 rfl rfl rfl ?_
  refine v_iconst 1 rfl ?_
  refine v_putI 2 rfl fl12_148_11 (al 53 rfl hn) (wk53 dy) (by decide) rfl (wc53_1 dy) (by decide) ?_
  refine v_aload_n 3 0 rfl rfl rfl ?_
  refine v_aload_n 4 0 rfl rfl rfl ?_
  refine v_iload_n 5 1 rfl rfl rfl ?_
  refine v_iload_n 6 2 rfl rfl rfl ?_
  refine v_callV (st := [.ref 53]) [I_ x1, I_ x2] 7 rfl lv12_159_write_11 (al 53 rfl hn) (wk53 dy) (by decide) rfl (Nat.le_refl _) (Nat.le_refl _) ?_
  exact h
set_option maxHeartbeats 8000000 in
set_option maxRecDepth 4000 in
theorem bX12_write_12 {d n : Nat} {dy : Nat → Shp} {g : Hp} {P : Pst} {x1 : Int} {x2 : Int} {x3 : Int} {xs1 : Int} (hn : 100 ≤ n) (h : (i3 xs1) ∧ ((xs1 ≤ 0) → (0 ≤ x1 ∧ x1 < 6) ∧ Runs miX12_cut d [I_ (g 54 x1.toNat), L_ x3] n (W0 dy) (up2 g 53 0 xs1) (fun v n' S' g' => V miX12_write (d + 1) 44 [(0, .ref 53), (1, I_ x1), (2, I_ x2), (3, L_ x3)] (v.toList ++ [I_ ((16 * x1) + x2), .ref 56]) n' S' g' 0 0 P)) ∧ ((0 < xs1) → P (some (I_ 0)) n (W0 dy) (up2 g 53 0 xs1))) : V miX12_write (d + 1) 12 [(0, .ref 53), (1, I_ x1), (2, I_ x2), (3, L_ x3)] [I_ xs1, .ref 53] n (W0 dy) g 0 0 P := by
  have c1 := h.1
  have h := h.2
  refine v_putI 8 rfl fl12_152_11 (al 53 rfl hn) (wk53 dy) (by decide) rfl (wc53_0 dy) c1 ?_
  refine v_aload_n 9 0 rfl rfl rfl ?_
  refine v_gI 10 rfl fl12_152_11.r (al 53 rfl hn) (wk53 dy) (by decide) rfl (wc53_0 dy) (x := xs1) rfl ?_
  refine v_rng fun w2 => ?_
  have p3 : i3 (xs1) := rI w2 (q := 0) (al 53 rfl hn) (wk53 dy) rfl rfl
  refine v_if_le 11 rfl (tgt := 24) rfl p3 (fun q4 => ?_) (fun q4 => ?_)
  · have h := h.1 q4
    refine v_aload_n 14 0 rfl rfl rfl ?_
    refine v_gK 15 rfl fl12_16_11.r (al 53 rfl hn) (wk53 dy) (by decide) rfl (r := 56) (wc53_4 dy) ?_
    refine v_bipush 16 rfl (by decide) ?_
    refine v_iload_n 17 1 rfl rfl rfl ?_
    refine v_imul 18 rfl ?_
    refine v_iload_n 19 2 rfl rfl rfl ?_
    refine v_iadd 20 rfl ?_
    refine v_aload_n 21 0 rfl rfl rfl ?_
    refine v_gK 22 rfl fl12_7_11.r (al 53 rfl hn) (wk53 dy) (by decide) rfl (r := 54) (wc53_2 dy) ?_
    refine v_iload_n 23 1 rfl rfl rfl ?_
    have c5 := h.1
    have h := h.2
    refine v_ia (N := 6) 24 rfl (al 54 rfl hn) (wk54 dy) (wn54 dy) (by decide) c5 (y := g 54 x1.toNat) rfl ?_
    refine v_rng fun w6 => ?_
    have p7 : i3 (g 54 x1.toNat) := rI w6 (q := x1.toNat) (al 54 rfl hn) (wk54 dy) rfl rfl
    refine v_lload_n 25 3 rfl rfl rfl ?_
    refine v_callS (st := [I_ ((16 * x1) + x2), .ref 56]) [I_ (g 54 x1.toNat), L_ x3] 26 rfl ls12_163_write rfl (Nat.lt_of_lt_of_le (by decide) hn) (Nat.le_refl _) (Nat.le_refl _) ?_
    exact h
  · have h := h.2 q4
    refine v_iconst 12 rfl ?_
    exact v_ret (v := some (I_ 0)) 13 rfl (Nat.zero_le _) (Nat.zero_le _) (Or.inl rfl) rfl h
set_option maxHeartbeats 8000000 in
set_option maxRecDepth 4000 in
theorem bX12_write_44 {d n : Nat} {dy : Nat → Shp} {g : Hp} {P : Pst} {x1 : Int} {x2 : Int} {x3 : Int} {xs1 : Int} {xs2 : Int} (hn : 100 ≤ n) (h : (0 ≤ xs1 ∧ xs1 < 96) ∧ (i6 xs2) ∧ P (some (I_ 1)) n (W0 dy) (up2 g 56 xs1.toNat xs2)) : V miX12_write (d + 1) 44 [(0, .ref 53), (1, I_ x1), (2, I_ x2), (3, L_ x3)] [L_ xs2, I_ xs1, .ref 56] n (W0 dy) g 0 0 P := by
  have c1 := h.1
  have h := h.2
  have c2 := h.1
  have h := h.2
  refine v_last (N := 96) 27 rfl (al 56 rfl hn) (wk56 dy) (wn56 dy) (by decide) c1 c2 ?_
  refine v_iconst 28 rfl ?_
  exact v_ret (v := some (I_ 1)) 29 rfl (Nat.zero_le _) (Nat.zero_le _) (Or.inr rfl) rfl h
theorem wX12_write {d n : Nat} {dy : Nat → Shp} {g : Hp} {P : Pst} {x1 : Int} {x2 : Int} {x3 : Int} (hn : 100 ≤ n) (h : Runs miX12_placed d [.ref 53, I_ x1, I_ x2] n (W0 dy) (up2 g 53 1 0) (fun v n' S' g' => V miX12_write (d + 1) 12 [(0, .ref 53), (1, I_ x1), (2, I_ x2), (3, L_ x3)] (v.toList ++ [.ref 53]) n' S' g' 0 0 P)) : Runs miX12_write (d + 1) [.ref 53, I_ x1, I_ x2, L_ x3] n (W0 dy) g P := Runs.of rfl rfl deX12_write (Nat.le_of_ble_eq_true rfl) (bX12_write_0 hn h)
theorem lv12_159_read_11 : LkV miX12_read miX12_placed 159 2 11 := ⟨⟨⟨tbG_in (List.mem_append_right _ (List.mem_of_getElem? (i := 1326) (by decide +kernel))) rfl, tbG_in (List.mem_append_right _ (List.mem_of_getElem? (i := 9) (by decide +kernel))) rfl, tbG_in (List.mem_append_right _ (List.mem_of_getElem? (i := 1323) (by decide +kernel))) rfl⟩, ⟨by decide +kernel, by decide +kernel, by decide +kernel⟩, by decide⟩, tbG_in (List.mem_append_right _ (List.mem_of_getElem? (i := 1325) (by decide +kernel))) rfl, RX12, TX12, 58, rfl, tbG_in (List.mem_append_left _ (List.mem_of_getElem? (i := 48) (by decide +kernel))) rfl⟩
set_option maxHeartbeats 8000000 in
set_option maxRecDepth 4000 in
theorem bX12_read_0 {d n : Nat} {dy : Nat → Shp} {g : Hp} {P : Pst} {x1 : Int} {x2 : Int} (hn : 100 ≤ n) (h : Runs miX12_placed d [.ref 53, I_ x1, I_ x2] n (W0 dy) (up2 g 53 1 0) (fun v n' S' g' => V miX12_read (d + 1) 12 [(0, .ref 53), (1, I_ x1), (2, I_ x2)] (v.toList ++ [.ref 53]) n' S' g' 0 0 P)) : V miX12_read (d + 1) 0 [(0, .ref 53), (1, I_ x1), (2, I_ x2)] [] n (W0 dy) g 0 0 P := by
  refine v_aload_n 0 0 rfl rfl rfl ?_
  refine v_iconst 1 rfl ?_
  refine v_putI 2 rfl fl12_148_11 (al 53 rfl hn) (wk53 dy) (by decide) rfl (wc53_1 dy) (by decide) ?_
  refine v_aload_n 3 0 rfl rfl rfl ?_
  refine v_aload_n 4 0 rfl rfl rfl ?_
  refine v_iload_n 5 1 rfl rfl rfl ?_
  refine v_iload_n 6 2 rfl rfl rfl ?_
  refine v_callV (st := [.ref 53]) [I_ x1, I_ x2] 7 rfl lv12_159_read_11 (al 53 rfl hn) (wk53 dy) (by decide) rfl (Nat.le_refl _) (Nat.le_refl _) ?_
  exact h
set_option maxHeartbeats 8000000 in
set_option maxRecDepth 4000 in
theorem bX12_read_12 {d n : Nat} {dy : Nat → Shp} {g : Hp} {P : Pst} {x1 : Int} {x2 : Int} {xs1 : Int} (hn : 100 ≤ n) (h : (i3 xs1) ∧ ((xs1 ≤ 0) → (0 ≤ (16 * x1) + x2 ∧ (16 * x1) + x2 < 96) ∧ P (some (L_ (g 56 (((16 * x1) + x2).toNat)))) n (W0 dy) (up2 g 53 0 xs1)) ∧ ((0 < xs1) → P (some (L_ ((-1)))) n (W0 dy) (up2 g 53 0 xs1))) : V miX12_read (d + 1) 12 [(0, .ref 53), (1, I_ x1), (2, I_ x2)] [I_ xs1, .ref 53] n (W0 dy) g 0 0 P := by
  have c1 := h.1
  have h := h.2
  refine v_putI 8 rfl fl12_152_11 (al 53 rfl hn) (wk53 dy) (by decide) rfl (wc53_0 dy) c1 ?_
  refine v_aload_n 9 0 rfl rfl rfl ?_
  refine v_gI 10 rfl fl12_152_11.r (al 53 rfl hn) (wk53 dy) (by decide) rfl (wc53_0 dy) (x := xs1) rfl ?_
  refine v_rng fun w2 => ?_
  have p3 : i3 (xs1) := rI w2 (q := 0) (al 53 rfl hn) (wk53 dy) rfl rfl
  refine v_if_le 11 rfl (tgt := 28) rfl p3 (fun q4 => ?_) (fun q4 => ?_)
  · have h := h.1 q4
    refine v_aload_n 14 0 rfl rfl rfl ?_
    refine v_gK 15 rfl fl12_16_11.r (al 53 rfl hn) (wk53 dy) (by decide) rfl (r := 56) (wc53_4 dy) ?_
    refine v_bipush 16 rfl (by decide) ?_
    refine v_iload_n 17 1 rfl rfl rfl ?_
    refine v_imul 18 rfl ?_
    refine v_iload_n 19 2 rfl rfl rfl ?_
    refine v_iadd 20 rfl ?_
    have c5 := h.1
    have h := h.2
    refine v_la (N := 96) 21 rfl (al 56 rfl hn) (wk56 dy) (wn56 dy) (by decide) c5 (y := g 56 (((16 * x1) + x2).toNat)) rfl ?_
    refine v_rng fun w6 => ?_
    have p7 : i6 (g 56 (((16 * x1) + x2).toNat)) := rL w6 (q := (((16 * x1) + x2).toNat)) (al 56 rfl hn) (wk56 dy) rfl rfl
    exact v_ret (v := some (L_ (g 56 (((16 * x1) + x2).toNat)))) 22 rfl (Nat.zero_le _) (Nat.zero_le _) trivial rfl h
  · have h := h.2 q4
    refine v_ldc2 (v := (-1)) 12 rfl (tbG_in (List.mem_append_right _ (List.mem_of_getElem? (i := 1334) (by decide +kernel))) rfl) ?_
    refine v_goto 13 rfl (tgt := 39) rfl ?_
    exact v_ret (v := some (L_ ((-1)))) 22 rfl (Nat.zero_le _) (Nat.zero_le _) trivial rfl h
theorem wX12_read {d n : Nat} {dy : Nat → Shp} {g : Hp} {P : Pst} {x1 : Int} {x2 : Int} (hn : 100 ≤ n) (h : Runs miX12_placed d [.ref 53, I_ x1, I_ x2] n (W0 dy) (up2 g 53 1 0) (fun v n' S' g' => V miX12_read (d + 1) 12 [(0, .ref 53), (1, I_ x1), (2, I_ x2)] (v.toList ++ [.ref 53]) n' S' g' 0 0 P)) : Runs miX12_read (d + 1) [.ref 53, I_ x1, I_ x2] n (W0 dy) g P := Runs.of rfl rfl deX12_read (Nat.le_of_ble_eq_true rfl) (bX12_read_0 hn h)
theorem lv12_155_pour_11 : LkV miX12_pour miX12_no 155 1 11 := ⟨⟨⟨tbG_in (List.mem_append_right _ (List.mem_of_getElem? (i := 1318) (by decide +kernel))) rfl, tbG_in (List.mem_append_right _ (List.mem_of_getElem? (i := 9) (by decide +kernel))) rfl, tbG_in (List.mem_append_right _ (List.mem_of_getElem? (i := 1315) (by decide +kernel))) rfl⟩, ⟨by decide +kernel, by decide +kernel, by decide +kernel⟩, by decide⟩, tbG_in (List.mem_append_right _ (List.mem_of_getElem? (i := 1317) (by decide +kernel))) rfl, RX12, TX12, 58, rfl, tbG_in (List.mem_append_left _ (List.mem_of_getElem? (i := 47) (by decide +kernel))) rfl⟩
set_option maxHeartbeats 8000000 in
set_option maxRecDepth 4000 in
theorem bX12_pour_0 {d n : Nat} {dy : Nat → Shp} {g : Hp} {P : Pst} {x1 : Int} {x2 : Int} {x3 : Int} {x4 : Int} {x5 : Int} (hn : 100 ≤ n) (h : (i3 x1) ∧ ((x1 < 0) → Runs miX12_no d [.ref 53, I_ 1] n (W0 dy) (up2 (up2 g 53 1 0) 53 0 0) (fun v n' S' g' => V miX12_pour (d + 1) 35 [(0, .ref 53), (1, I_ x1), (2, I_ x2), (3, I_ x3), (4, I_ x4), (5, I_ x5)] (v.toList ++ []) n' S' g' 0 0 P)) ∧ ((0 ≤ x1) → ((6 ≤ x1) → Runs miX12_no d [.ref 53, I_ 1] n (W0 dy) (up2 (up2 g 53 1 0) 53 0 0) (fun v n' S' g' => V miX12_pour (d + 1) 35 [(0, .ref 53), (1, I_ x1), (2, I_ x2), (3, I_ x3), (4, I_ x4), (5, I_ x5)] (v.toList ++ []) n' S' g' 0 0 P)) ∧ ((x1 < 6) → (i3 x3) ∧ ((x3 < 0) → Runs miX12_no d [.ref 53, I_ 1] n (W0 dy) (up2 (up2 g 53 1 0) 53 0 0) (fun v n' S' g' => V miX12_pour (d + 1) 35 [(0, .ref 53), (1, I_ x1), (2, I_ x2), (3, I_ x3), (4, I_ x4), (5, I_ x5)] (v.toList ++ []) n' S' g' 0 0 P)) ∧ ((0 ≤ x3) → ((x3 < 6) → (0 ≤ x1 ∧ x1 < 6) ∧ (((g 55 x1.toNat) < 0) → Runs miX12_no d [.ref 53, I_ 3] n (W0 dy) (up2 (up2 g 53 1 0) 53 0 0) (fun v n' S' g' => V miX12_pour (d + 1) 59 [(0, .ref 53), (1, I_ x1), (2, I_ x2), (3, I_ x3), (4, I_ x4), (5, I_ x5)] (v.toList ++ []) n' S' g' 0 0 P)) ∧ ((0 ≤ (g 55 x1.toNat)) → (0 ≤ x3 ∧ x3 < 6) ∧ ((0 ≤ (g 55 x3.toNat)) → (((g 54 x1.toNat) = (g 54 x3.toNat)) → (i3 x5) ∧ ((0 ≤ x5) → (i3 x2) ∧ ((x2 < 0) → Runs miX12_no d [.ref 53, I_ 4] n (W0 dy) (up2 (up2 g 53 1 0) 53 0 0) (fun v n' S' g' => V miX12_pour (d + 1) 143 [(0, .ref 53), (1, I_ x1), (2, I_ x2), (3, I_ x3), (4, I_ x4), (5, I_ x5)] (v.toList ++ []) n' S' g' 0 0 P)) ∧ ((0 ≤ x2) → (i3 x4) ∧ ((x4 < 0) → Runs miX12_no d [.ref 53, I_ 4] n (W0 dy) (up2 (up2 g 53 1 0) 53 0 0) (fun v n' S' g' => V miX12_pour (d + 1) 143 [(0, .ref 53), (1, I_ x1), (2, I_ x2), (3, I_ x3), (4, I_ x4), (5, I_ x5)] (v.toList ++ []) n' S' g' 0 0 P)) ∧ ((0 ≤ x4) → (i6 (x2 + x5)) ∧ (((g 55 x1.toNat) < (x2 + x5)) → Runs miX12_no d [.ref 53, I_ 4] n (W0 dy) (up2 (up2 g 53 1 0) 53 0 0) (fun v n' S' g' => V miX12_pour (d + 1) 143 [(0, .ref 53), (1, I_ x1), (2, I_ x2), (3, I_ x3), (4, I_ x4), (5, I_ x5)] (v.toList ++ []) n' S' g' 0 0 P)) ∧ (((x2 + x5) ≤ (g 55 x1.toNat)) → (i6 (x4 + x5)) ∧ (((x4 + x5) ≤ (g 55 x3.toNat)) → ((x4 ≤ x2) → V miX12_pour (d + 1) 160 [(0, .ref 53), (1, I_ x1), (2, I_ x2), (3, I_ x3), (4, I_ x4), (5, I_ x5), (6, I_ 0), (7, I_ 0)] [] n (W0 dy) (up2 (up2 g 53 1 0) 53 0 0) 0 0 P) ∧ ((x2 < x4) → V miX12_pour (d + 1) 160 [(0, .ref 53), (1, I_ x1), (2, I_ x2), (3, I_ x3), (4, I_ x4), (5, I_ x5), (6, I_ 1), (7, I_ 0)] [] n (W0 dy) (up2 (up2 g 53 1 0) 53 0 0) 0 0 P)) ∧ (((g 55 x3.toNat) < (x4 + x5)) → Runs miX12_no d [.ref 53, I_ 4] n (W0 dy) (up2 (up2 g 53 1 0) 53 0 0) (fun v n' S' g' => V miX12_pour (d + 1) 143 [(0, .ref 53), (1, I_ x1), (2, I_ x2), (3, I_ x3), (4, I_ x4), (5, I_ x5)] (v.toList ++ []) n' S' g' 0 0 P)))))) ∧ ((x5 < 0) → Runs miX12_no d [.ref 53, I_ 6] n (W0 dy) (up2 (up2 g 53 1 0) 53 0 0) (fun v n' S' g' => V miX12_pour (d + 1) 93 [(0, .ref 53), (1, I_ x1), (2, I_ x2), (3, I_ x3), (4, I_ x4), (5, I_ x5)] (v.toList ++ []) n' S' g' 0 0 P))) ∧ (((g 54 x1.toNat) ≠ (g 54 x3.toNat)) → Runs miX12_no d [.ref 53, I_ 12] n (W0 dy) (up2 (up2 g 53 1 0) 53 0 0) (fun v n' S' g' => V miX12_pour (d + 1) 81 [(0, .ref 53), (1, I_ x1), (2, I_ x2), (3, I_ x3), (4, I_ x4), (5, I_ x5)] (v.toList ++ []) n' S' g' 0 0 P))) ∧ (((g 55 x3.toNat) < 0) → Runs miX12_no d [.ref 53, I_ 3] n (W0 dy) (up2 (up2 g 53 1 0) 53 0 0) (fun v n' S' g' => V miX12_pour (d + 1) 59 [(0, .ref 53), (1, I_ x1), (2, I_ x2), (3, I_ x3), (4, I_ x4), (5, I_ x5)] (v.toList ++ []) n' S' g' 0 0 P)))) ∧ ((6 ≤ x3) → Runs miX12_no d [.ref 53, I_ 1] n (W0 dy) (up2 (up2 g 53 1 0) 53 0 0) (fun v n' S' g' => V miX12_pour (d + 1) 35 [(0, .ref 53), (1, I_ x1), (2, I_ x2), (3, I_ x3), (4, I_ x4), (5, I_ x5)] (v.toList ++ []) n' S' g' 0 0 P)))))) : V miX12_pour (d + 1) 0 [(0, .ref 53), (1, I_ x1), (2, I_ x2), (3, I_ x3), (4, I_ x4), (5, I_ x5)] [] n (W0 dy) g 0 0 P := by
  refine v_aload_n 0 0 rfl rfl rfl ?_
  refine v_iconst 1 rfl ?_
  refine v_putI 2 rfl fl12_148_11 (al 53 rfl hn) (wk53 dy) (by decide) rfl (wc53_1 dy) (by decide) ?_
  refine v_aload_n 3 0 rfl rfl rfl ?_
  refine v_iconst 4 rfl ?_
  refine v_putI 5 rfl fl12_152_11 (al 53 rfl hn) (wk53 dy) (by decide) rfl (wc53_0 dy) (by decide) ?_
  refine v_iload_n 6 1 rfl rfl rfl ?_
  have c1 := h.1
  have h := h.2
  refine v_if_lt 7 rfl (tgt := 30) rfl c1 (fun q2 => ?_) (fun q2 => ?_)
  · have h := h.1 q2
    refine v_aload_n 16 0 rfl rfl rfl ?_
    refine v_iconst 17 rfl ?_
    refine v_callV (st := []) [I_ 1] 18 rfl lv12_155_pour_11 (al 53 rfl hn) (wk53 dy) (by decide) rfl (Nat.le_refl _) (Nat.le_refl _) ?_
    exact h
  · have h := h.2 q2
    refine v_iload_n 8 1 rfl rfl rfl ?_
    refine v_bipush 9 rfl (by decide) ?_
    refine v_icmp_ge 10 rfl (tgt := 30) rfl c1 (by decide) (fun q3 => ?_) (fun q3 => ?_)
    · have h := h.1 q3
      refine v_aload_n 16 0 rfl rfl rfl ?_
      refine v_iconst 17 rfl ?_
      refine v_callV (st := []) [I_ 1] 18 rfl lv12_155_pour_11 (al 53 rfl hn) (wk53 dy) (by decide) rfl (Nat.le_refl _) (Nat.le_refl _) ?_
      exact h
    · have h := h.2 q3
      refine v_iload_n 11 3 rfl rfl rfl ?_
      have c4 := h.1
      have h := h.2
      refine v_if_lt 12 rfl (tgt := 30) rfl c4 (fun q5 => ?_) (fun q5 => ?_)
      · have h := h.1 q5
        refine v_aload_n 16 0 rfl rfl rfl ?_
        refine v_iconst 17 rfl ?_
        refine v_callV (st := []) [I_ 1] 18 rfl lv12_155_pour_11 (al 53 rfl hn) (wk53 dy) (by decide) rfl (Nat.le_refl _) (Nat.le_refl _) ?_
        exact h
      · have h := h.2 q5
        refine v_iload_n 13 3 rfl rfl rfl ?_
        refine v_bipush 14 rfl (by decide) ?_
        refine v_icmp_lt 15 rfl (tgt := 36) rfl c4 (by decide) (fun q6 => ?_) (fun q6 => ?_)
        · have h := h.1 q6
          refine v_aload_n 20 0 rfl rfl rfl ?_
          refine v_gK 21 rfl fl12_13_11.r (al 53 rfl hn) (wk53 dy) (by decide) rfl (r := 55) (wc53_3 dy) ?_
          refine v_iload_n 22 1 rfl rfl rfl ?_
          have c7 := h.1
          have h := h.2
          refine v_ia (N := 6) 23 rfl (al 55 rfl hn) (wk55 dy) (wn55 dy) (by decide) c7 (y := g 55 x1.toNat) rfl ?_
          refine v_rng fun w8 => ?_
          have p9 : i3 (g 55 x1.toNat) := rI w8 (q := x1.toNat) (al 55 rfl hn) (wk55 dy) rfl rfl
          refine v_if_lt 24 rfl (tgt := 54) rfl p9 (fun q10 => ?_) (fun q10 => ?_)
          · have h := h.1 q10
            refine v_aload_n 30 0 rfl rfl rfl ?_
            refine v_iconst 31 rfl ?_
            refine v_callV (st := []) [I_ 3] 32 rfl lv12_155_pour_11 (al 53 rfl hn) (wk53 dy) (by decide) rfl (Nat.le_refl _) (Nat.le_refl _) ?_
            exact h
          · have h := h.2 q10
            refine v_aload_n 25 0 rfl rfl rfl ?_
            refine v_gK 26 rfl fl12_13_11.r (al 53 rfl hn) (wk53 dy) (by decide) rfl (r := 55) (wc53_3 dy) ?_
            refine v_iload_n 27 3 rfl rfl rfl ?_
            have c11 := h.1
            have h := h.2
            refine v_ia (N := 6) 28 rfl (al 55 rfl hn) (wk55 dy) (wn55 dy) (by decide) c11 (y := g 55 x3.toNat) rfl ?_
            refine v_rng fun w12 => ?_
            have p13 : i3 (g 55 x3.toNat) := rI w12 (q := x3.toNat) (al 55 rfl hn) (wk55 dy) rfl rfl
            refine v_if_ge 29 rfl (tgt := 60) rfl p13 (fun q14 => ?_) (fun q14 => ?_)
            · have h := h.1 q14
              refine v_aload_n 34 0 rfl rfl rfl ?_
              refine v_gK 35 rfl fl12_7_11.r (al 53 rfl hn) (wk53 dy) (by decide) rfl (r := 54) (wc53_2 dy) ?_
              refine v_iload_n 36 1 rfl rfl rfl ?_
              refine v_ia (N := 6) 37 rfl (al 54 rfl hn) (wk54 dy) (wn54 dy) (by decide) c7 (y := g 54 x1.toNat) rfl ?_
              refine v_rng fun w15 => ?_
              have p16 : i3 (g 54 x1.toNat) := rI w15 (q := x1.toNat) (al 54 rfl hn) (wk54 dy) rfl rfl
              refine v_aload_n 38 0 rfl rfl rfl ?_
              refine v_gK 39 rfl fl12_7_11.r (al 53 rfl hn) (wk53 dy) (by decide) rfl (r := 54) (wc53_2 dy) ?_
              refine v_iload_n 40 3 rfl rfl rfl ?_
              refine v_ia (N := 6) 41 rfl (al 54 rfl hn) (wk54 dy) (wn54 dy) (by decide) c11 (y := g 54 x3.toNat) rfl ?_
              refine v_rng fun w17 => ?_
              have p18 : i3 (g 54 x3.toNat) := rI w17 (q := x3.toNat) (al 54 rfl hn) (wk54 dy) rfl rfl
              refine v_icmp_eq 42 rfl (tgt := 82) rfl p16 p18 (fun q19 => ?_) (fun q19 => ?_)
              · have h := h.1 q19
                refine v_iload 47 5 rfl rfl ?_
                have c20 := h.1
                have h := h.2
                refine v_if_ge 48 rfl (tgt := 94) rfl c20 (fun q21 => ?_) (fun q21 => ?_)
                · have h := h.1 q21
                  refine v_iload_n 53 2 rfl rfl rfl ?_
                  have c22 := h.1
                  have h := h.2
                  refine v_if_lt 54 rfl (tgt := 138) rfl c22 (fun q23 => ?_) (fun q23 => ?_)
                  · have h := h.1 q23
                    refine v_aload_n 81 0 rfl rfl rfl ?_
                    refine v_iconst 82 rfl ?_
                    refine v_callV (st := []) [I_ 4] 83 rfl lv12_155_pour_11 (al 53 rfl hn) (wk53 dy) (by decide) rfl (Nat.le_refl _) (Nat.le_refl _) ?_
                    exact h
                  · have h := h.2 q23
                    refine v_iload 55 4 rfl rfl ?_
                    have c24 := h.1
                    have h := h.2
                    refine v_if_lt 56 rfl (tgt := 138) rfl c24 (fun q25 => ?_) (fun q25 => ?_)
                    · have h := h.1 q25
                      refine v_aload_n 81 0 rfl rfl rfl ?_
                      refine v_iconst 82 rfl ?_
                      refine v_callV (st := []) [I_ 4] 83 rfl lv12_155_pour_11 (al 53 rfl hn) (wk53 dy) (by decide) rfl (Nat.le_refl _) (Nat.le_refl _) ?_
                      exact h
                    · have h := h.2 q25
                      refine v_iload_n 57 2 rfl rfl rfl ?_
                      refine v_i2l 58 rfl c22 ?_
                      refine v_iload 59 5 rfl rfl ?_
                      refine v_i2l 60 rfl c20 ?_
                      refine v_ladd 61 rfl ?_
                      refine v_aload_n 62 0 rfl rfl rfl ?_
                      refine v_gK 63 rfl fl12_13_11.r (al 53 rfl hn) (wk53 dy) (by decide) rfl (r := 55) (wc53_3 dy) ?_
                      refine v_iload_n 64 1 rfl rfl rfl ?_
                      refine v_ia (N := 6) 65 rfl (al 55 rfl hn) (wk55 dy) (wn55 dy) (by decide) c7 (y := g 55 x1.toNat) rfl ?_
                      refine v_rng fun w26 => ?_
                      have p27 : i3 (g 55 x1.toNat) := rI w26 (q := x1.toNat) (al 55 rfl hn) (wk55 dy) rfl rfl
                      refine v_i2l 66 rfl p27 ?_
                      have c28 := h.1
                      have h := h.2
                      refine v_lif_gt 67 rfl rfl (tgt := 138) rfl c28 (i36 p27) (fun q29 => ?_) (fun q29 => ?_)
                      · have h := h.1 q29
                        refine v_aload_n 81 0 rfl rfl rfl ?_
                        refine v_iconst 82 rfl ?_
                        refine v_callV (st := []) [I_ 4] 83 rfl lv12_155_pour_11 (al 53 rfl hn) (wk53 dy) (by decide) rfl (Nat.le_refl _) (Nat.le_refl _) ?_
                        exact h
                      · have h := h.2 q29
                        refine v_iload 69 4 rfl rfl ?_
                        refine v_i2l 70 rfl c24 ?_
                        refine v_iload 71 5 rfl rfl ?_
                        refine v_i2l 72 rfl c20 ?_
                        refine v_ladd 73 rfl ?_
                        refine v_aload_n 74 0 rfl rfl rfl ?_
                        refine v_gK 75 rfl fl12_13_11.r (al 53 rfl hn) (wk53 dy) (by decide) rfl (r := 55) (wc53_3 dy) ?_
                        refine v_iload_n 76 3 rfl rfl rfl ?_
                        refine v_ia (N := 6) 77 rfl (al 55 rfl hn) (wk55 dy) (wn55 dy) (by decide) c11 (y := g 55 x3.toNat) rfl ?_
                        refine v_rng fun w30 => ?_
                        have p31 : i3 (g 55 x3.toNat) := rI w30 (q := x3.toNat) (al 55 rfl hn) (wk55 dy) rfl rfl
                        refine v_i2l 78 rfl p31 ?_
                        have c32 := h.1
                        have h := h.2
                        refine v_lif_le 79 rfl rfl (tgt := 144) rfl c32 (i36 p31) (fun q33 => ?_) (fun q33 => ?_)
                        · have h := h.1 q33
                          refine v_iload_n 85 2 rfl rfl rfl ?_
                          refine v_iload 86 4 rfl rfl ?_
                          refine v_icmp_ge 87 rfl (tgt := 154) rfl c22 c24 (fun q34 => ?_) (fun q34 => ?_)
                          · have h := h.1 q34
                            refine v_iconst 90 rfl ?_
                            refine v_istore 91 [1, 2, 3, 4, 5, 6, 0] rfl (by decide) rfl ?_
                            refine v_iconst 92 rfl ?_
                            refine v_istore 93 [1, 2, 3, 4, 5, 6, 7, 0] rfl (by decide) rfl ?_
                            exact h
                          · have h := h.2 q34
                            refine v_iconst 88 rfl ?_
                            refine v_goto 89 rfl (tgt := 155) rfl ?_
                            refine v_istore 91 [1, 2, 3, 4, 5, 6, 0] rfl (by decide) rfl ?_
                            refine v_iconst 92 rfl ?_
                            refine v_istore 93 [1, 2, 3, 4, 5, 6, 7, 0] rfl (by decide) rfl ?_
                            exact h
                        · have h := h.2 q33
                          refine v_aload_n 81 0 rfl rfl rfl ?_
                          refine v_iconst 82 rfl ?_
                          refine v_callV (st := []) [I_ 4] 83 rfl lv12_155_pour_11 (al 53 rfl hn) (wk53 dy) (by decide) rfl (Nat.le_refl _) (Nat.le_refl _) ?_
                          exact h
                · have h := h.2 q21
                  refine v_aload_n 49 0 rfl rfl rfl ?_
                  refine v_bipush 50 rfl (by decide) ?_
                  refine v_callV (st := []) [I_ 6] 51 rfl lv12_155_pour_11 (al 53 rfl hn) (wk53 dy) (by decide) rfl (Nat.le_refl _) (Nat.le_refl _) ?_
                  exact h
              · have h := h.2 q19
                refine v_aload_n 43 0 rfl rfl rfl ?_
                refine v_bipush 44 rfl (by decide) ?_
                refine v_callV (st := []) [I_ 12] 45 rfl lv12_155_pour_11 (al 53 rfl hn) (wk53 dy) (by decide) rfl (Nat.le_refl _) (Nat.le_refl _) ?_
                exact h
            · have h := h.2 q14
              refine v_aload_n 30 0 rfl rfl rfl ?_
              refine v_iconst 31 rfl ?_
              refine v_callV (st := []) [I_ 3] 32 rfl lv12_155_pour_11 (al 53 rfl hn) (wk53 dy) (by decide) rfl (Nat.le_refl _) (Nat.le_refl _) ?_
              exact h
        · have h := h.2 q6
          refine v_aload_n 16 0 rfl rfl rfl ?_
          refine v_iconst 17 rfl ?_
          refine v_callV (st := []) [I_ 1] 18 rfl lv12_155_pour_11 (al 53 rfl hn) (wk53 dy) (by decide) rfl (Nat.le_refl _) (Nat.le_refl _) ?_
          exact h
set_option maxHeartbeats 8000000 in
set_option maxRecDepth 4000 in
theorem bX12_pour_35 {d n : Nat} {dy : Nat → Shp} {g : Hp} {P : Pst} {x1 : Int} {x2 : Int} {x3 : Int} {x4 : Int} {x5 : Int} {xs0 : Int} (hn : 100 ≤ n) (h : (xs0 = 0 ∨ xs0 = 1) ∧ P (some (I_ xs0)) n (W0 dy) g) : V miX12_pour (d + 1) 35 [(0, .ref 53), (1, I_ x1), (2, I_ x2), (3, I_ x3), (4, I_ x4), (5, I_ x5)] [I_ xs0] n (W0 dy) g 0 0 P := by
  have c1 := h.1
  have h := h.2
  exact v_ret (v := some (I_ xs0)) 19 rfl (Nat.zero_le _) (Nat.zero_le _) (rokZ c1) rfl h
set_option maxHeartbeats 8000000 in
set_option maxRecDepth 4000 in
theorem bX12_pour_59 {d n : Nat} {dy : Nat → Shp} {g : Hp} {P : Pst} {x1 : Int} {x2 : Int} {x3 : Int} {x4 : Int} {x5 : Int} {xs0 : Int} (hn : 100 ≤ n) (h : (xs0 = 0 ∨ xs0 = 1) ∧ P (some (I_ xs0)) n (W0 dy) g) : V miX12_pour (d + 1) 59 [(0, .ref 53), (1, I_ x1), (2, I_ x2), (3, I_ x3), (4, I_ x4), (5, I_ x5)] [I_ xs0] n (W0 dy) g 0 0 P := by
  have c1 := h.1
  have h := h.2
  exact v_ret (v := some (I_ xs0)) 33 rfl (Nat.zero_le _) (Nat.zero_le _) (rokZ c1) rfl h
set_option maxHeartbeats 8000000 in
set_option maxRecDepth 4000 in
theorem bX12_pour_81 {d n : Nat} {dy : Nat → Shp} {g : Hp} {P : Pst} {x1 : Int} {x2 : Int} {x3 : Int} {x4 : Int} {x5 : Int} {xs0 : Int} (hn : 100 ≤ n) (h : (xs0 = 0 ∨ xs0 = 1) ∧ P (some (I_ xs0)) n (W0 dy) g) : V miX12_pour (d + 1) 81 [(0, .ref 53), (1, I_ x1), (2, I_ x2), (3, I_ x3), (4, I_ x4), (5, I_ x5)] [I_ xs0] n (W0 dy) g 0 0 P := by
  have c1 := h.1
  have h := h.2
  exact v_ret (v := some (I_ xs0)) 46 rfl (Nat.zero_le _) (Nat.zero_le _) (rokZ c1) rfl h
set_option maxHeartbeats 8000000 in
set_option maxRecDepth 4000 in
theorem bX12_pour_93 {d n : Nat} {dy : Nat → Shp} {g : Hp} {P : Pst} {x1 : Int} {x2 : Int} {x3 : Int} {x4 : Int} {x5 : Int} {xs0 : Int} (hn : 100 ≤ n) (h : (xs0 = 0 ∨ xs0 = 1) ∧ P (some (I_ xs0)) n (W0 dy) g) : V miX12_pour (d + 1) 93 [(0, .ref 53), (1, I_ x1), (2, I_ x2), (3, I_ x3), (4, I_ x4), (5, I_ x5)] [I_ xs0] n (W0 dy) g 0 0 P := by
  have c1 := h.1
  have h := h.2
  exact v_ret (v := some (I_ xs0)) 52 rfl (Nat.zero_le _) (Nat.zero_le _) (rokZ c1) rfl h
set_option maxHeartbeats 8000000 in
set_option maxRecDepth 4000 in
theorem bX12_pour_143 {d n : Nat} {dy : Nat → Shp} {g : Hp} {P : Pst} {x1 : Int} {x2 : Int} {x3 : Int} {x4 : Int} {x5 : Int} {xs0 : Int} (hn : 100 ≤ n) (h : (xs0 = 0 ∨ xs0 = 1) ∧ P (some (I_ xs0)) n (W0 dy) g) : V miX12_pour (d + 1) 143 [(0, .ref 53), (1, I_ x1), (2, I_ x2), (3, I_ x3), (4, I_ x4), (5, I_ x5)] [I_ xs0] n (W0 dy) g 0 0 P := by
  have c1 := h.1
  have h := h.2
  exact v_ret (v := some (I_ xs0)) 84 rfl (Nat.zero_le _) (Nat.zero_le _) (rokZ c1) rfl h
set_option maxHeartbeats 8000000 in
set_option maxRecDepth 4000 in
theorem bX12_pour_160 {d n : Nat} {dy : Nat → Shp} {g : Hp} {P : Pst} {x1 : Int} {x2 : Int} {x3 : Int} {x4 : Int} {x5 : Int} {x6 : Int} {x7 : Int} (hn : 100 ≤ n) (h : (i3 x7) ∧ (i3 x5) ∧ ((x5 ≤ x7) → P (some (I_ 1)) n (W0 dy) g) ∧ ((x7 < x5) → (i3 x6) ∧ ((x6 = 0) → (0 ≤ ((16 * x1) + x2) + x7 ∧ ((16 * x1) + x2) + x7 < 96) ∧ ∀ y9 : Int, y9 = g 56 ((((16 * x1) + x2) + x7).toNat) → (0 ≤ ((16 * x3) + x4) + x7 ∧ ((16 * x3) + x4) + x7 < 96) ∧ V miX12_pour (d + 1) 160 [(0, .ref 53), (1, I_ x1), (2, I_ x2), (3, I_ x3), (4, I_ x4), (5, I_ x5), (6, I_ x6), (7, I_ (x7 + 1))] [] n (W0 dy) (up2 g 56 ((((16 * x3) + x4) + x7).toNat) y9) 0 0 P) ∧ ((x6 ≠ 0) → (0 ≤ ((16 * x1) + x2) + ((x5 - 1) - x7) ∧ ((16 * x1) + x2) + ((x5 - 1) - x7) < 96) ∧ ∀ y14 : Int, y14 = g 56 ((((16 * x1) + x2) + ((x5 - 1) - x7)).toNat) → (0 ≤ ((16 * x3) + x4) + ((x5 - 1) - x7) ∧ ((16 * x3) + x4) + ((x5 - 1) - x7) < 96) ∧ V miX12_pour (d + 1) 160 [(0, .ref 53), (1, I_ x1), (2, I_ x2), (3, I_ x3), (4, I_ x4), (5, I_ x5), (6, I_ x6), (7, I_ (x7 + 1))] [] n (W0 dy) (up2 g 56 ((((16 * x3) + x4) + ((x5 - 1) - x7)).toNat) y14) 0 0 P))) : V miX12_pour (d + 1) 160 [(0, .ref 53), (1, I_ x1), (2, I_ x2), (3, I_ x3), (4, I_ x4), (5, I_ x5), (6, I_ x6), (7, I_ x7)] [] n (W0 dy) g 0 0 P := by
  refine v_iload 94 7 rfl rfl ?_
  refine v_iload 95 5 rfl rfl ?_
  have c1 := h.1
  have h := h.2
  have c2 := h.1
  have h := h.2
  refine v_icmp_ge 96 rfl (tgt := 221) rfl c1 c2 (fun q3 => ?_) (fun q3 => ?_)
  · have h := h.1 q3
    refine v_iconst 129 rfl ?_
    exact v_ret (v := some (I_ 1)) 130 rfl (Nat.zero_le _) (Nat.zero_le _) (Or.inr rfl) rfl h
  · have h := h.2 q3
    refine v_iload 97 6 rfl rfl ?_
    have c4 := h.1
    have h := h.2
    refine v_if_eq 98 rfl (tgt := 182) rfl c4 (fun q5 => ?_) (fun q5 => ?_)
    · have h := h.1 q5
      refine v_iload 105 7 rfl rfl ?_
      refine v_istore 106 [1, 2, 3, 4, 5, 6, 7, 8, 0] rfl (by decide) rfl ?_
      refine v_aload_n 107 0 rfl rfl rfl ?_
      refine v_gK 108 rfl fl12_16_11.r (al 53 rfl hn) (wk53 dy) (by decide) rfl (r := 56) (wc53_4 dy) ?_
      refine v_bipush 109 rfl (by decide) ?_
      refine v_iload_n 110 3 rfl rfl rfl ?_
      refine v_imul 111 rfl ?_
      refine v_iload 112 4 rfl rfl ?_
      refine v_iadd 113 rfl ?_
      refine v_iload 114 8 rfl rfl ?_
      refine v_iadd 115 rfl ?_
      refine v_aload_n 116 0 rfl rfl rfl ?_
      refine v_gK 117 rfl fl12_16_11.r (al 53 rfl hn) (wk53 dy) (by decide) rfl (r := 56) (wc53_4 dy) ?_
      refine v_bipush 118 rfl (by decide) ?_
      refine v_iload_n 119 1 rfl rfl rfl ?_
      refine v_imul 120 rfl ?_
      refine v_iload_n 121 2 rfl rfl rfl ?_
      refine v_iadd 122 rfl ?_
      refine v_iload 123 8 rfl rfl ?_
      refine v_iadd 124 rfl ?_
      have c6 := h.1
      have h := h.2
      refine v_la (N := 96) 125 rfl (al 56 rfl hn) (wk56 dy) (wn56 dy) (by decide) c6 (y := g 56 ((((16 * x1) + x2) + x7).toNat)) rfl ?_
      refine v_rng fun w7 => ?_
      have p8 : i6 (g 56 ((((16 * x1) + x2) + x7).toNat)) := rL w7 (q := ((((16 * x1) + x2) + x7).toNat)) (al 56 rfl hn) (wk56 dy) rfl rfl
      refine v_nmL (fun y9 ey9 => ?_)
      have h := h y9 ey9
      have ry9 : i6 y9 := by rw [ey9]; exact p8
      have c10 := h.1
      have h := h.2
      refine v_last (N := 96) 126 rfl (al 56 rfl hn) (wk56 dy) (wn56 dy) (by decide) c10 ry9 ?_
      refine v_iinc 127 7 [1, 2, 3, 4, 5, 6, 7, 0, 8] rfl rfl (by decide) rfl ?_
      refine v_goto 128 rfl (tgt := 160) rfl ?_
      refine v_loc [0, 1, 2, 3, 4, 5, 6, 7] rfl ?_
      exact h
    · have h := h.2 q5
      refine v_iload 99 5 rfl rfl ?_
      refine v_iconst 100 rfl ?_
      refine v_isub 101 rfl ?_
      refine v_iload 102 7 rfl rfl ?_
      refine v_isub 103 rfl ?_
      refine v_goto 104 rfl (tgt := 184) rfl ?_
      refine v_istore 106 [1, 2, 3, 4, 5, 6, 7, 8, 0] rfl (by decide) rfl ?_
      refine v_aload_n 107 0 rfl rfl rfl ?_
      refine v_gK 108 rfl fl12_16_11.r (al 53 rfl hn) (wk53 dy) (by decide) rfl (r := 56) (wc53_4 dy) ?_
      refine v_bipush 109 rfl (by decide) ?_
      refine v_iload_n 110 3 rfl rfl rfl ?_
      refine v_imul 111 rfl ?_
      refine v_iload 112 4 rfl rfl ?_
      refine v_iadd 113 rfl ?_
      refine v_iload 114 8 rfl rfl ?_
      refine v_iadd 115 rfl ?_
      refine v_aload_n 116 0 rfl rfl rfl ?_
      refine v_gK 117 rfl fl12_16_11.r (al 53 rfl hn) (wk53 dy) (by decide) rfl (r := 56) (wc53_4 dy) ?_
      refine v_bipush 118 rfl (by decide) ?_
      refine v_iload_n 119 1 rfl rfl rfl ?_
      refine v_imul 120 rfl ?_
      refine v_iload_n 121 2 rfl rfl rfl ?_
      refine v_iadd 122 rfl ?_
      refine v_iload 123 8 rfl rfl ?_
      refine v_iadd 124 rfl ?_
      have c11 := h.1
      have h := h.2
      refine v_la (N := 96) 125 rfl (al 56 rfl hn) (wk56 dy) (wn56 dy) (by decide) c11 (y := g 56 ((((16 * x1) + x2) + ((x5 - 1) - x7)).toNat)) rfl ?_
      refine v_rng fun w12 => ?_
      have p13 : i6 (g 56 ((((16 * x1) + x2) + ((x5 - 1) - x7)).toNat)) := rL w12 (q := ((((16 * x1) + x2) + ((x5 - 1) - x7)).toNat)) (al 56 rfl hn) (wk56 dy) rfl rfl
      refine v_nmL (fun y14 ey14 => ?_)
      have h := h y14 ey14
      have ry14 : i6 y14 := by rw [ey14]; exact p13
      have c15 := h.1
      have h := h.2
      refine v_last (N := 96) 126 rfl (al 56 rfl hn) (wk56 dy) (wn56 dy) (by decide) c15 ry14 ?_
      refine v_iinc 127 7 [1, 2, 3, 4, 5, 6, 7, 0, 8] rfl rfl (by decide) rfl ?_
      refine v_goto 128 rfl (tgt := 160) rfl ?_
      refine v_loc [0, 1, 2, 3, 4, 5, 6, 7] rfl ?_
      exact h
theorem wX12_pour {d n : Nat} {dy : Nat → Shp} {g : Hp} {P : Pst} {x1 : Int} {x2 : Int} {x3 : Int} {x4 : Int} {x5 : Int} (hn : 100 ≤ n) (h : (i3 x1) ∧ ((x1 < 0) → Runs miX12_no d [.ref 53, I_ 1] n (W0 dy) (up2 (up2 g 53 1 0) 53 0 0) (fun v n' S' g' => V miX12_pour (d + 1) 35 [(0, .ref 53), (1, I_ x1), (2, I_ x2), (3, I_ x3), (4, I_ x4), (5, I_ x5)] (v.toList ++ []) n' S' g' 0 0 P)) ∧ ((0 ≤ x1) → ((6 ≤ x1) → Runs miX12_no d [.ref 53, I_ 1] n (W0 dy) (up2 (up2 g 53 1 0) 53 0 0) (fun v n' S' g' => V miX12_pour (d + 1) 35 [(0, .ref 53), (1, I_ x1), (2, I_ x2), (3, I_ x3), (4, I_ x4), (5, I_ x5)] (v.toList ++ []) n' S' g' 0 0 P)) ∧ ((x1 < 6) → (i3 x3) ∧ ((x3 < 0) → Runs miX12_no d [.ref 53, I_ 1] n (W0 dy) (up2 (up2 g 53 1 0) 53 0 0) (fun v n' S' g' => V miX12_pour (d + 1) 35 [(0, .ref 53), (1, I_ x1), (2, I_ x2), (3, I_ x3), (4, I_ x4), (5, I_ x5)] (v.toList ++ []) n' S' g' 0 0 P)) ∧ ((0 ≤ x3) → ((x3 < 6) → (0 ≤ x1 ∧ x1 < 6) ∧ (((g 55 x1.toNat) < 0) → Runs miX12_no d [.ref 53, I_ 3] n (W0 dy) (up2 (up2 g 53 1 0) 53 0 0) (fun v n' S' g' => V miX12_pour (d + 1) 59 [(0, .ref 53), (1, I_ x1), (2, I_ x2), (3, I_ x3), (4, I_ x4), (5, I_ x5)] (v.toList ++ []) n' S' g' 0 0 P)) ∧ ((0 ≤ (g 55 x1.toNat)) → (0 ≤ x3 ∧ x3 < 6) ∧ ((0 ≤ (g 55 x3.toNat)) → (((g 54 x1.toNat) = (g 54 x3.toNat)) → (i3 x5) ∧ ((0 ≤ x5) → (i3 x2) ∧ ((x2 < 0) → Runs miX12_no d [.ref 53, I_ 4] n (W0 dy) (up2 (up2 g 53 1 0) 53 0 0) (fun v n' S' g' => V miX12_pour (d + 1) 143 [(0, .ref 53), (1, I_ x1), (2, I_ x2), (3, I_ x3), (4, I_ x4), (5, I_ x5)] (v.toList ++ []) n' S' g' 0 0 P)) ∧ ((0 ≤ x2) → (i3 x4) ∧ ((x4 < 0) → Runs miX12_no d [.ref 53, I_ 4] n (W0 dy) (up2 (up2 g 53 1 0) 53 0 0) (fun v n' S' g' => V miX12_pour (d + 1) 143 [(0, .ref 53), (1, I_ x1), (2, I_ x2), (3, I_ x3), (4, I_ x4), (5, I_ x5)] (v.toList ++ []) n' S' g' 0 0 P)) ∧ ((0 ≤ x4) → (i6 (x2 + x5)) ∧ (((g 55 x1.toNat) < (x2 + x5)) → Runs miX12_no d [.ref 53, I_ 4] n (W0 dy) (up2 (up2 g 53 1 0) 53 0 0) (fun v n' S' g' => V miX12_pour (d + 1) 143 [(0, .ref 53), (1, I_ x1), (2, I_ x2), (3, I_ x3), (4, I_ x4), (5, I_ x5)] (v.toList ++ []) n' S' g' 0 0 P)) ∧ (((x2 + x5) ≤ (g 55 x1.toNat)) → (i6 (x4 + x5)) ∧ (((x4 + x5) ≤ (g 55 x3.toNat)) → ((x4 ≤ x2) → V miX12_pour (d + 1) 160 [(0, .ref 53), (1, I_ x1), (2, I_ x2), (3, I_ x3), (4, I_ x4), (5, I_ x5), (6, I_ 0), (7, I_ 0)] [] n (W0 dy) (up2 (up2 g 53 1 0) 53 0 0) 0 0 P) ∧ ((x2 < x4) → V miX12_pour (d + 1) 160 [(0, .ref 53), (1, I_ x1), (2, I_ x2), (3, I_ x3), (4, I_ x4), (5, I_ x5), (6, I_ 1), (7, I_ 0)] [] n (W0 dy) (up2 (up2 g 53 1 0) 53 0 0) 0 0 P)) ∧ (((g 55 x3.toNat) < (x4 + x5)) → Runs miX12_no d [.ref 53, I_ 4] n (W0 dy) (up2 (up2 g 53 1 0) 53 0 0) (fun v n' S' g' => V miX12_pour (d + 1) 143 [(0, .ref 53), (1, I_ x1), (2, I_ x2), (3, I_ x3), (4, I_ x4), (5, I_ x5)] (v.toList ++ []) n' S' g' 0 0 P)))))) ∧ ((x5 < 0) → Runs miX12_no d [.ref 53, I_ 6] n (W0 dy) (up2 (up2 g 53 1 0) 53 0 0) (fun v n' S' g' => V miX12_pour (d + 1) 93 [(0, .ref 53), (1, I_ x1), (2, I_ x2), (3, I_ x3), (4, I_ x4), (5, I_ x5)] (v.toList ++ []) n' S' g' 0 0 P))) ∧ (((g 54 x1.toNat) ≠ (g 54 x3.toNat)) → Runs miX12_no d [.ref 53, I_ 12] n (W0 dy) (up2 (up2 g 53 1 0) 53 0 0) (fun v n' S' g' => V miX12_pour (d + 1) 81 [(0, .ref 53), (1, I_ x1), (2, I_ x2), (3, I_ x3), (4, I_ x4), (5, I_ x5)] (v.toList ++ []) n' S' g' 0 0 P))) ∧ (((g 55 x3.toNat) < 0) → Runs miX12_no d [.ref 53, I_ 3] n (W0 dy) (up2 (up2 g 53 1 0) 53 0 0) (fun v n' S' g' => V miX12_pour (d + 1) 59 [(0, .ref 53), (1, I_ x1), (2, I_ x2), (3, I_ x3), (4, I_ x4), (5, I_ x5)] (v.toList ++ []) n' S' g' 0 0 P)))) ∧ ((6 ≤ x3) → Runs miX12_no d [.ref 53, I_ 1] n (W0 dy) (up2 (up2 g 53 1 0) 53 0 0) (fun v n' S' g' => V miX12_pour (d + 1) 35 [(0, .ref 53), (1, I_ x1), (2, I_ x2), (3, I_ x3), (4, I_ x4), (5, I_ x5)] (v.toList ++ []) n' S' g' 0 0 P)))))) : Runs miX12_pour (d + 1) [.ref 53, I_ x1, I_ x2, I_ x3, I_ x4, I_ x5] n (W0 dy) g P := Runs.of rfl rfl deX12_pour (Nat.le_of_ble_eq_true rfl) (bX12_pour_0 hn h)
theorem fl12_169_11 : FL RX12 169 11 5 false .int := ⟨RX12, TX12, 58, "MobileMakerModel", rfl, rfl, by decide, kf11, tbG_in (List.mem_append_right _ (List.mem_of_getElem? (i := 1132) (by decide +kernel))) rfl, Or.inl rfl, rfl, by decide +kernel, ⟨tyX12, tyX12_ok⟩, nmX12, fun h => by cases h⟩
theorem fl12_20_11 : FL RX12 20 11 6 true (.array .int) := ⟨RX12, TX12, 58, "MobileMakerModel", rfl, rfl, by decide, kf11, tbG_in (List.mem_append_right _ (List.mem_of_getElem? (i := 1133) (by decide +kernel))) rfl, Or.inl rfl, rfl, by decide +kernel, ⟨tyX12, tyX12_ok⟩, nmX12, fun _ => rfl⟩
theorem fl12_38_11 : FL RX12 38 11 12 true (.array .long) := ⟨RX12, TX12, 58, "MobileMakerModel", rfl, rfl, by decide, kf11, tbG_in (List.mem_append_right _ (List.mem_of_getElem? (i := 1139) (by decide +kernel))) rfl, Or.inl rfl, rfl, by decide +kernel, ⟨tyX12, tyX12_ok⟩, nmX12, fun _ => rfl⟩
theorem fl12_29_11 : FL RX12 29 11 9 true (.array .int) := ⟨RX12, TX12, 58, "MobileMakerModel", rfl, rfl, by decide, kf11, tbG_in (List.mem_append_right _ (List.mem_of_getElem? (i := 1136) (by decide +kernel))) rfl, Or.inl rfl, rfl, by decide +kernel, ⟨tyX12, tyX12_ok⟩, nmX12, fun _ => rfl⟩
theorem fl12_32_11 : FL RX12 32 11 10 true (.array .int) := ⟨RX12, TX12, 58, "MobileMakerModel", rfl, rfl, by decide, kf11, tbG_in (List.mem_append_right _ (List.mem_of_getElem? (i := 1137) (by decide +kernel))) rfl, Or.inl rfl, rfl, by decide +kernel, ⟨tyX12, tyX12_ok⟩, nmX12, fun _ => rfl⟩
theorem fl12_35_11 : FL RX12 35 11 11 true (.array .int) := ⟨RX12, TX12, 58, "MobileMakerModel", rfl, rfl, by decide, kf11, tbG_in (List.mem_append_right _ (List.mem_of_getElem? (i := 1138) (by decide +kernel))) rfl, Or.inl rfl, rfl, by decide +kernel, ⟨tyX12, tyX12_ok⟩, nmX12, fun _ => rfl⟩
theorem fl12_47_11 : FL RX12 47 11 15 true (.array .int) := ⟨RX12, TX12, 58, "MobileMakerModel", rfl, rfl, by decide, kf11, tbG_in (List.mem_append_right _ (List.mem_of_getElem? (i := 1142) (by decide +kernel))) rfl, Or.inl rfl, rfl, by decide +kernel, ⟨tyX12, tyX12_ok⟩, nmX12, fun _ => rfl⟩
theorem fl12_50_11 : FL RX12 50 11 16 true (.array .int) := ⟨RX12, TX12, 58, "MobileMakerModel", rfl, rfl, by decide, kf11, tbG_in (List.mem_append_right _ (List.mem_of_getElem? (i := 1143) (by decide +kernel))) rfl, Or.inl rfl, rfl, by decide +kernel, ⟨tyX12, tyX12_ok⟩, nmX12, fun _ => rfl⟩
set_option maxHeartbeats 8000000 in
set_option maxRecDepth 4000 in
theorem bX12_newPart_0 {d n : Nat} {dy : Nat → Shp} {g : Hp} {P : Pst} {x1 : Int} {x2 : Int} (hn : 100 ≤ n) (h : (0 ≤ g 53 5 ∧ g 53 5 < 60) ∧ (i3 x1) ∧ (i6 x2) ∧ (i3 ((g 53 5) + 1)) ∧ P (some (I_ (g 53 5))) n (W0 dy) (up2 (up2 (up2 (up2 (up2 (up2 (up2 (up2 g 57 ((g 53 5).toNat) x1) 63 ((g 53 5).toNat) x2) 60 ((g 53 5).toNat) ((-1))) 61 ((g 53 5).toNat) ((-1))) 62 ((g 53 5).toNat) 0) 66 ((g 53 5).toNat) ((-1))) 67 ((g 53 5).toNat) ((-1))) 53 5 ((g 53 5) + 1))) : V miX12_newPart d 0 [(0, .ref 53), (1, I_ x1), (2, L_ x2)] [] n (W0 dy) g 0 0 P := by
  refine v_aload_n 0 0 rfl rfl rfl ?_
  refine v_gI 1 rfl fl12_169_11.r (al 53 rfl hn) (wk53 dy) (by decide) rfl (wc53_5 dy) (x := g 53 5) rfl ?_
  refine v_rng fun w1 => ?_
  have p2 : i3 (g 53 5) := rI w1 (q := 5) (al 53 rfl hn) (wk53 dy) rfl rfl
  refine v_istore 2 [1, 2, 3, 0] rfl (by decide) rfl ?_
  refine v_aload_n 3 0 rfl rfl rfl ?_
  refine v_gK 4 rfl fl12_20_11.r (al 53 rfl hn) (wk53 dy) (by decide) rfl (r := 57) (wc53_6 dy) ?_
  refine v_iload 5 3 rfl rfl ?_
  refine v_iload_n 6 1 rfl rfl rfl ?_
  have c3 := h.1
  have h := h.2
  have c4 := h.1
  have h := h.2
  refine v_iast (N := 60) 7 rfl (al 57 rfl hn) (wk57 dy) (wn57 dy) (by decide) c3 c4 ?_
  refine v_aload_n 8 0 rfl rfl rfl ?_
  refine v_gK 9 rfl fl12_38_11.r (al 53 rfl hn) (wk53 dy) (by decide) rfl (r := 63) (wc53_12 dy) ?_
  refine v_iload 10 3 rfl rfl ?_
  refine v_lload_n 11 2 rfl rfl rfl ?_
  have c5 := h.1
  have h := h.2
  refine v_last (N := 60) 12 rfl (al 63 rfl hn) (wk63 dy) (wn63 dy) (by decide) c3 c5 ?_
  refine v_aload_n 13 0 rfl rfl rfl ?_
  refine v_gK 14 rfl fl12_29_11.r (al 53 rfl hn) (wk53 dy) (by decide) rfl (r := 60) (wc53_9 dy) ?_
  refine v_iload 15 3 rfl rfl ?_
  refine v_iconst 16 rfl ?_
  refine v_iast (N := 60) 17 rfl (al 60 rfl hn) (wk60 dy) (wn60 dy) (by decide) c3 (by decide) ?_
  refine v_aload_n 18 0 rfl rfl rfl ?_
  refine v_gK 19 rfl fl12_32_11.r (al 53 rfl hn) (wk53 dy) (by decide) rfl (r := 61) (wc53_10 dy) ?_
  refine v_iload 20 3 rfl rfl ?_
  refine v_iconst 21 rfl ?_
  refine v_iast (N := 60) 22 rfl (al 61 rfl hn) (wk61 dy) (wn61 dy) (by decide) c3 (by decide) ?_
  refine v_aload_n 23 0 rfl rfl rfl ?_
  refine v_gK 24 rfl fl12_35_11.r (al 53 rfl hn) (wk53 dy) (by decide) rfl (r := 62) (wc53_11 dy) ?_
  refine v_iload 25 3 rfl rfl ?_
  refine v_iconst 26 rfl ?_
  refine v_iast (N := 60) 27 rfl (al 62 rfl hn) (wk62 dy) (wn62 dy) (by decide) c3 (by decide) ?_
  refine v_aload_n 28 0 rfl rfl rfl ?_
  refine v_gK 29 rfl fl12_47_11.r (al 53 rfl hn) (wk53 dy) (by decide) rfl (r := 66) (wc53_15 dy) ?_
  refine v_iload 30 3 rfl rfl ?_
  refine v_iconst 31 rfl ?_
  refine v_iast (N := 60) 32 rfl (al 66 rfl hn) (wk66 dy) (wn66 dy) (by decide) c3 (by decide) ?_
  refine v_aload_n 33 0 rfl rfl rfl ?_
  refine v_gK 34 rfl fl12_50_11.r (al 53 rfl hn) (wk53 dy) (by decide) rfl (r := 67) (wc53_16 dy) ?_
  refine v_iload 35 3 rfl rfl ?_
  refine v_iconst 36 rfl ?_
  refine v_iast (N := 60) 37 rfl (al 67 rfl hn) (wk67 dy) (wn67 dy) (by decide) c3 (by decide) ?_
  refine v_aload_n 38 0 rfl rfl rfl ?_
  refine v_dup 39 rfl (by intro h; cases h) ?_
  refine v_gI 40 rfl fl12_169_11.r (al 53 rfl hn) (wk53 dy) (by decide) rfl (wc53_5 dy) (x := g 53 5) rfl ?_
  refine v_rng fun w6 => ?_
  have p7 : i3 (g 53 5) := rI w6 (q := 5) (al 53 rfl hn) (wk53 dy) rfl rfl
  refine v_iconst 41 rfl ?_
  refine v_iadd 42 rfl ?_
  have c8 := h.1
  have h := h.2
  refine v_putI 43 rfl fl12_169_11 (al 53 rfl hn) (wk53 dy) (by decide) rfl (wc53_5 dy) c8 ?_
  refine v_iload 44 3 rfl rfl ?_
  exact v_ret (v := some (I_ (g 53 5))) 45 rfl (Nat.zero_le _) (Nat.zero_le _) trivial rfl h
theorem wX12_newPart {d n : Nat} {dy : Nat → Shp} {g : Hp} {P : Pst} {x1 : Int} {x2 : Int} (hn : 100 ≤ n) (h : (0 ≤ g 53 5 ∧ g 53 5 < 60) ∧ (i3 x1) ∧ (i6 x2) ∧ (i3 ((g 53 5) + 1)) ∧ P (some (I_ (g 53 5))) n (W0 dy) (up2 (up2 (up2 (up2 (up2 (up2 (up2 (up2 g 57 ((g 53 5).toNat) x1) 63 ((g 53 5).toNat) x2) 60 ((g 53 5).toNat) ((-1))) 61 ((g 53 5).toNat) ((-1))) 62 ((g 53 5).toNat) 0) 66 ((g 53 5).toNat) ((-1))) 67 ((g 53 5).toNat) ((-1))) 53 5 ((g 53 5) + 1))) : Runs miX12_newPart d [.ref 53, I_ x1, L_ x2] n (W0 dy) g P := Runs.of rfl rfl deX12_newPart (Nat.le_of_ble_eq_true rfl) (bX12_newPart_0 hn h)
theorem lv12_174_newWeight_11 : LkV miX12_newWeight miX12_refuse 174 1 11 := ⟨⟨⟨tbG_in (List.mem_append_right _ (List.mem_of_getElem? (i := 1351) (by decide +kernel))) rfl, tbG_in (List.mem_append_right _ (List.mem_of_getElem? (i := 9) (by decide +kernel))) rfl, tbG_in (List.mem_append_right _ (List.mem_of_getElem? (i := 1348) (by decide +kernel))) rfl⟩, ⟨by decide +kernel, by decide +kernel, by decide +kernel⟩, by decide⟩, tbG_in (List.mem_append_right _ (List.mem_of_getElem? (i := 1350) (by decide +kernel))) rfl, RX12, TX12, 58, rfl, tbG_in (List.mem_append_left _ (List.mem_of_getElem? (i := 50) (by decide +kernel))) rfl⟩
theorem lv12_178_newWeight_11 : LkV miX12_newWeight miX12_newPart 178 2 11 := ⟨⟨⟨tbG_in (List.mem_append_right _ (List.mem_of_getElem? (i := 1355) (by decide +kernel))) rfl, tbG_in (List.mem_append_right _ (List.mem_of_getElem? (i := 9) (by decide +kernel))) rfl, tbG_in (List.mem_append_right _ (List.mem_of_getElem? (i := 1352) (by decide +kernel))) rfl⟩, ⟨by decide +kernel, by decide +kernel, by decide +kernel⟩, by decide⟩, tbG_in (List.mem_append_right _ (List.mem_of_getElem? (i := 1354) (by decide +kernel))) rfl, RX12, TX12, 58, rfl, tbG_in (List.mem_append_left _ (List.mem_of_getElem? (i := 51) (by decide +kernel))) rfl⟩
set_option maxHeartbeats 8000000 in
set_option maxRecDepth 4000 in
theorem bX12_newWeight_0 {d n : Nat} {dy : Nat → Shp} {g : Hp} {P : Pst} {x1 : Int} (hn : 100 ≤ n) (h : (i6 x1) ∧ ((x1 < 1) → Runs miX12_refuse d [.ref 53, I_ 7] n (W0 dy) g (fun v n' S' g' => V miX12_newWeight (d + 1) 20 [(0, .ref 53), (1, L_ x1)] (v.toList ++ []) n' S' g' 0 0 P)) ∧ ((1 ≤ x1) → ((x1 ≤ 1000000) → (((g 53 5) ≠ 60) → Runs miX12_newPart d [.ref 53, I_ 1, L_ x1] n (W0 dy) g (fun v n' S' g' => V miX12_newWeight (d + 1) 45 [(0, .ref 53), (1, L_ x1)] (v.toList ++ []) n' S' g' 0 0 P)) ∧ (((g 53 5) = 60) → Runs miX12_refuse d [.ref 53, I_ 10] n (W0 dy) g (fun v n' S' g' => V miX12_newWeight (d + 1) 36 [(0, .ref 53), (1, L_ x1)] (v.toList ++ []) n' S' g' 0 0 P))) ∧ ((1000000 < x1) → Runs miX12_refuse d [.ref 53, I_ 7] n (W0 dy) g (fun v n' S' g' => V miX12_newWeight (d + 1) 20 [(0, .ref 53), (1, L_ x1)] (v.toList ++ []) n' S' g' 0 0 P)))) : V miX12_newWeight (d + 1) 0 [(0, .ref 53), (1, L_ x1)] [] n (W0 dy) g 0 0 P := by
  refine v_lload_n 0 1 rfl rfl rfl ?_
  refine v_lconst (v := 1) 1 rfl (by decide) ?_
  have c1 := h.1
  have h := h.2
  refine v_lif_lt 2 rfl rfl (tgt := 14) rfl c1 (by decide) (fun q2 => ?_) (fun q2 => ?_)
  · have h := h.1 q2
    refine v_aload_n 8 0 rfl rfl rfl ?_
    refine v_bipush 9 rfl (by decide) ?_
    refine v_callV (st := []) [I_ 7] 10 rfl lv12_174_newWeight_11 (al 53 rfl hn) (wk53 dy) (by decide) rfl (Nat.le_refl _) (Nat.le_refl _) ?_
    exact h
  · have h := h.2 q2
    refine v_lload_n 4 1 rfl rfl rfl ?_
    refine v_ldc2 (v := 1000000) 5 rfl (tbG_in (List.mem_append_right _ (List.mem_of_getElem? (i := 1347) (by decide +kernel))) rfl) ?_
    refine v_lif_le 6 rfl rfl (tgt := 21) rfl c1 (by decide) (fun q3 => ?_) (fun q3 => ?_)
    · have h := h.1 q3
      refine v_aload_n 12 0 rfl rfl rfl ?_
      refine v_gI 13 rfl fl12_169_11.r (al 53 rfl hn) (wk53 dy) (by decide) rfl (wc53_5 dy) (x := g 53 5) rfl ?_
      refine v_rng fun w4 => ?_
      have p5 : i3 (g 53 5) := rI w4 (q := 5) (al 53 rfl hn) (wk53 dy) rfl rfl
      refine v_bipush 14 rfl (by decide) ?_
      refine v_icmp_ne 15 rfl (tgt := 39) rfl p5 (by decide) (fun q6 => ?_) (fun q6 => ?_)
      · have h := h.1 q6
        refine v_aload_n 20 0 rfl rfl rfl ?_
        refine v_iconst 21 rfl ?_
        refine v_lload_n 22 1 rfl rfl rfl ?_
        refine v_callV (st := []) [I_ 1, L_ x1] 23 rfl lv12_178_newWeight_11 (al 53 rfl hn) (wk53 dy) (by decide) rfl (Nat.le_refl _) (Nat.le_refl _) ?_
        exact h
      · have h := h.2 q6
        refine v_aload_n 16 0 rfl rfl rfl ?_
        refine v_bipush 17 rfl (by decide) ?_
        refine v_callV (st := []) [I_ 10] 18 rfl lv12_174_newWeight_11 (al 53 rfl hn) (wk53 dy) (by decide) rfl (Nat.le_refl _) (Nat.le_refl _) ?_
        exact h
    · have h := h.2 q3
      refine v_aload_n 8 0 rfl rfl rfl ?_
      refine v_bipush 9 rfl (by decide) ?_
      refine v_callV (st := []) [I_ 7] 10 rfl lv12_174_newWeight_11 (al 53 rfl hn) (wk53 dy) (by decide) rfl (Nat.le_refl _) (Nat.le_refl _) ?_
      exact h
set_option maxHeartbeats 8000000 in
set_option maxRecDepth 4000 in
theorem bX12_newWeight_20 {d n : Nat} {dy : Nat → Shp} {g : Hp} {P : Pst} {x1 : Int} {xs0 : Int} (hn : 100 ≤ n) (h : P (some (I_ xs0)) n (W0 dy) g) : V miX12_newWeight (d + 1) 20 [(0, .ref 53), (1, L_ x1)] [I_ xs0] n (W0 dy) g 0 0 P := by
  exact v_ret (v := some (I_ xs0)) 11 rfl (Nat.zero_le _) (Nat.zero_le _) trivial rfl h
set_option maxHeartbeats 8000000 in
set_option maxRecDepth 4000 in
theorem bX12_newWeight_36 {d n : Nat} {dy : Nat → Shp} {g : Hp} {P : Pst} {x1 : Int} {xs0 : Int} (hn : 100 ≤ n) (h : V miX12_newWeight (d + 1) 45 [(0, .ref 53), (1, L_ x1)] [I_ xs0] n (W0 dy) g 0 0 P) : V miX12_newWeight (d + 1) 36 [(0, .ref 53), (1, L_ x1)] [I_ xs0] n (W0 dy) g 0 0 P := by
  refine v_goto 19 rfl (tgt := 45) rfl ?_
  exact h
set_option maxHeartbeats 8000000 in
set_option maxRecDepth 4000 in
theorem bX12_newWeight_45 {d n : Nat} {dy : Nat → Shp} {g : Hp} {P : Pst} {x1 : Int} {xs0 : Int} (hn : 100 ≤ n) (h : P (some (I_ xs0)) n (W0 dy) g) : V miX12_newWeight (d + 1) 45 [(0, .ref 53), (1, L_ x1)] [I_ xs0] n (W0 dy) g 0 0 P := by
  exact v_ret (v := some (I_ xs0)) 24 rfl (Nat.zero_le _) (Nat.zero_le _) trivial rfl h
theorem wX12_newWeight {d n : Nat} {dy : Nat → Shp} {g : Hp} {P : Pst} {x1 : Int} (hn : 100 ≤ n) (h : (i6 x1) ∧ ((x1 < 1) → Runs miX12_refuse d [.ref 53, I_ 7] n (W0 dy) g (fun v n' S' g' => V miX12_newWeight (d + 1) 20 [(0, .ref 53), (1, L_ x1)] (v.toList ++ []) n' S' g' 0 0 P)) ∧ ((1 ≤ x1) → ((x1 ≤ 1000000) → (((g 53 5) ≠ 60) → Runs miX12_newPart d [.ref 53, I_ 1, L_ x1] n (W0 dy) g (fun v n' S' g' => V miX12_newWeight (d + 1) 45 [(0, .ref 53), (1, L_ x1)] (v.toList ++ []) n' S' g' 0 0 P)) ∧ (((g 53 5) = 60) → Runs miX12_refuse d [.ref 53, I_ 10] n (W0 dy) g (fun v n' S' g' => V miX12_newWeight (d + 1) 36 [(0, .ref 53), (1, L_ x1)] (v.toList ++ []) n' S' g' 0 0 P))) ∧ ((1000000 < x1) → Runs miX12_refuse d [.ref 53, I_ 7] n (W0 dy) g (fun v n' S' g' => V miX12_newWeight (d + 1) 20 [(0, .ref 53), (1, L_ x1)] (v.toList ++ []) n' S' g' 0 0 P)))) : Runs miX12_newWeight (d + 1) [.ref 53, L_ x1] n (W0 dy) g P := Runs.of rfl rfl deX12_newWeight (Nat.le_of_ble_eq_true rfl) (bX12_newWeight_0 hn h)
theorem lv12_182_weight_11 : LkV miX12_weight miX12_newWeight 182 1 11 := ⟨⟨⟨tbG_in (List.mem_append_right _ (List.mem_of_getElem? (i := 1346) (by decide +kernel))) rfl, tbG_in (List.mem_append_right _ (List.mem_of_getElem? (i := 9) (by decide +kernel))) rfl, tbG_in (List.mem_append_right _ (List.mem_of_getElem? (i := 1343) (by decide +kernel))) rfl⟩, ⟨by decide +kernel, by decide +kernel, by decide +kernel⟩, by decide⟩, tbG_in (List.mem_append_right _ (List.mem_of_getElem? (i := 1345) (by decide +kernel))) rfl, RX12, TX12, 58, rfl, tbG_in (List.mem_append_left _ (List.mem_of_getElem? (i := 49) (by decide +kernel))) rfl⟩
set_option maxHeartbeats 8000000 in
set_option maxRecDepth 4000 in
theorem bX12_weight_0 {d n : Nat} {dy : Nat → Shp} {g : Hp} {P : Pst} {x1 : Int} (hn : 100 ≤ n) (h : (i3 x1) ∧ Runs miX12_newWeight d [.ref 53, L_ x1] n (W0 dy) (up2 (up2 g 53 1 0) 53 0 0) (fun v n' S' g' => V miX12_weight (d + 1) 16 [(0, .ref 53), (1, I_ x1)] (v.toList ++ []) n' S' g' 0 0 P)) : V miX12_weight (d + 1) 0 [(0, .ref 53), (1, I_ x1)] [] n (W0 dy) g 0 0 P := by
  refine v_aload_n 0 0 rfl rfl rfl ?_
  refine v_iconst 1 rfl ?_
  refine v_putI 2 rfl fl12_148_11 (al 53 rfl hn) (wk53 dy) (by decide) rfl (wc53_1 dy) (by decide) ?_
  refine v_aload_n 3 0 rfl rfl rfl ?_
  refine v_iconst 4 rfl ?_
  refine v_putI 5 rfl fl12_152_11 (al 53 rfl hn) (wk53 dy) (by decide) rfl (wc53_0 dy) (by decide) ?_
  refine v_aload_n 6 0 rfl rfl rfl ?_
  refine v_iload_n 7 1 rfl rfl rfl ?_
  have c1 := h.1
  have h := h.2
  refine v_i2l 8 rfl c1 ?_
  refine v_callV (st := []) [L_ x1] 9 rfl lv12_182_weight_11 (al 53 rfl hn) (wk53 dy) (by decide) rfl (Nat.le_refl _) (Nat.le_refl _) ?_
  exact h
set_option maxHeartbeats 8000000 in
set_option maxRecDepth 4000 in
theorem bX12_weight_16 {d n : Nat} {dy : Nat → Shp} {g : Hp} {P : Pst} {x1 : Int} {xs0 : Int} (hn : 100 ≤ n) (h : P (some (I_ xs0)) n (W0 dy) g) : V miX12_weight (d + 1) 16 [(0, .ref 53), (1, I_ x1)] [I_ xs0] n (W0 dy) g 0 0 P := by
  exact v_ret (v := some (I_ xs0)) 10 rfl (Nat.zero_le _) (Nat.zero_le _) trivial rfl h
theorem wX12_weight {d n : Nat} {dy : Nat → Shp} {g : Hp} {P : Pst} {x1 : Int} (hn : 100 ≤ n) (h : (i3 x1) ∧ Runs miX12_newWeight d [.ref 53, L_ x1] n (W0 dy) (up2 (up2 g 53 1 0) 53 0 0) (fun v n' S' g' => V miX12_weight (d + 1) 16 [(0, .ref 53), (1, I_ x1)] (v.toList ++ []) n' S' g' 0 0 P)) : Runs miX12_weight (d + 1) [.ref 53, I_ x1] n (W0 dy) g P := Runs.of rfl rfl deX12_weight (Nat.le_of_ble_eq_true rfl) (bX12_weight_0 hn h)
theorem lv12_159_load_11 : LkV miX12_load miX12_placed 159 2 11 := ⟨⟨⟨tbG_in (List.mem_append_right _ (List.mem_of_getElem? (i := 1326) (by decide +kernel))) rfl, tbG_in (List.mem_append_right _ (List.mem_of_getElem? (i := 9) (by decide +kernel))) rfl, tbG_in (List.mem_append_right _ (List.mem_of_getElem? (i := 1323) (by decide +kernel))) rfl⟩, ⟨by decide +kernel, by decide +kernel, by decide +kernel⟩, by decide⟩, tbG_in (List.mem_append_right _ (List.mem_of_getElem? (i := 1325) (by decide +kernel))) rfl, RX12, TX12, 58, rfl, tbG_in (List.mem_append_left _ (List.mem_of_getElem? (i := 48) (by decide +kernel))) rfl⟩
theorem lv12_182_load_11 : LkV miX12_load miX12_newWeight 182 1 11 := ⟨⟨⟨tbG_in (List.mem_append_right _ (List.mem_of_getElem? (i := 1346) (by decide +kernel))) rfl, tbG_in (List.mem_append_right _ (List.mem_of_getElem? (i := 9) (by decide +kernel))) rfl, tbG_in (List.mem_append_right _ (List.mem_of_getElem? (i := 1343) (by decide +kernel))) rfl⟩, ⟨by decide +kernel, by decide +kernel, by decide +kernel⟩, by decide⟩, tbG_in (List.mem_append_right _ (List.mem_of_getElem? (i := 1345) (by decide +kernel))) rfl, RX12, TX12, 58, rfl, tbG_in (List.mem_append_left _ (List.mem_of_getElem? (i := 49) (by decide +kernel))) rfl⟩
set_option maxHeartbeats 8000000 in
set_option maxRecDepth 4000 in
theorem bX12_load_0 {d n : Nat} {dy : Nat → Shp} {g : Hp} {P : Pst} {x1 : Int} {x2 : Int} (hn : 100 ≤ n) (h : Runs miX12_placed d [.ref 53, I_ x1, I_ x2] n (W0 dy) (up2 g 53 1 0) (fun v n' S' g' => V miX12_load (d + 1) 12 [(0, .ref 53), (1, I_ x1), (2, I_ x2)] (v.toList ++ [.ref 53]) n' S' g' 0 0 P)) : V miX12_load (d + 1) 0 [(0, .ref 53), (1, I_ x1), (2, I_ x2)] [] n (W0 dy) g 0 0 P := by
  refine v_aload_n 0 0 rfl rfl rfl ?_
  refine v_iconst 1 rfl ?_
  refine v_putI 2 rfl fl12_148_11 (al 53 rfl hn) (wk53 dy) (by decide) rfl (wc53_1 dy) (by decide) ?_
  refine v_aload_n 3 0 rfl rfl rfl ?_
  refine v_aload_n 4 0 rfl rfl rfl ?_
  refine v_iload_n 5 1 rfl rfl rfl ?_
  refine v_iload_n 6 2 rfl rfl rfl ?_
  refine v_callV (st := [.ref 53]) [I_ x1, I_ x2] 7 rfl lv12_159_load_11 (al 53 rfl hn) (wk53 dy) (by decide) rfl (Nat.le_refl _) (Nat.le_refl _) ?_
  exact h
set_option maxHeartbeats 8000000 in
set_option maxRecDepth 4000 in
theorem bX12_load_12 {d n : Nat} {dy : Nat → Shp} {g : Hp} {P : Pst} {x1 : Int} {x2 : Int} {xs1 : Int} (hn : 100 ≤ n) (h : (i3 xs1) ∧ ((xs1 ≤ 0) → (0 ≤ (16 * x1) + x2 ∧ (16 * x1) + x2 < 96) ∧ Runs miX12_newWeight d [.ref 53, L_ (g 56 (((16 * x1) + x2).toNat))] n (W0 dy) (up2 g 53 0 xs1) (fun v n' S' g' => V miX12_load (d + 1) 41 [(0, .ref 53), (1, I_ x1), (2, I_ x2)] (v.toList ++ []) n' S' g' 0 0 P)) ∧ ((0 < xs1) → V miX12_load (d + 1) 41 [(0, .ref 53), (1, I_ x1), (2, I_ x2)] [I_ ((-1))] n (W0 dy) (up2 g 53 0 xs1) 0 0 P)) : V miX12_load (d + 1) 12 [(0, .ref 53), (1, I_ x1), (2, I_ x2)] [I_ xs1, .ref 53] n (W0 dy) g 0 0 P := by
  have c1 := h.1
  have h := h.2
  refine v_putI 8 rfl fl12_152_11 (al 53 rfl hn) (wk53 dy) (by decide) rfl (wc53_0 dy) c1 ?_
  refine v_aload_n 9 0 rfl rfl rfl ?_
  refine v_gI 10 rfl fl12_152_11.r (al 53 rfl hn) (wk53 dy) (by decide) rfl (wc53_0 dy) (x := xs1) rfl ?_
  refine v_rng fun w2 => ?_
  have p3 : i3 (xs1) := rI w2 (q := 0) (al 53 rfl hn) (wk53 dy) rfl rfl
  refine v_if_le 11 rfl (tgt := 26) rfl p3 (fun q4 => ?_) (fun q4 => ?_)
  · have h := h.1 q4
    refine v_aload_n 14 0 rfl rfl rfl ?_
    refine v_aload_n 15 0 rfl rfl rfl ?_
    refine v_gK 16 rfl fl12_16_11.r (al 53 rfl hn) (wk53 dy) (by decide) rfl (r := 56) (wc53_4 dy) ?_
    refine v_bipush 17 rfl (by decide) ?_
    refine v_iload_n 18 1 rfl rfl rfl ?_
    refine v_imul 19 rfl ?_
    refine v_iload_n 20 2 rfl rfl rfl ?_
    refine v_iadd 21 rfl ?_
    have c5 := h.1
    have h := h.2
    refine v_la (N := 96) 22 rfl (al 56 rfl hn) (wk56 dy) (wn56 dy) (by decide) c5 (y := g 56 (((16 * x1) + x2).toNat)) rfl ?_
    refine v_rng fun w6 => ?_
    have p7 : i6 (g 56 (((16 * x1) + x2).toNat)) := rL w6 (q := (((16 * x1) + x2).toNat)) (al 56 rfl hn) (wk56 dy) rfl rfl
    refine v_callV (st := []) [L_ (g 56 (((16 * x1) + x2).toNat))] 23 rfl lv12_182_load_11 (al 53 rfl hn) (wk53 dy) (by decide) rfl (Nat.le_refl _) (Nat.le_refl _) ?_
    exact h
  · have h := h.2 q4
    refine v_iconst 12 rfl ?_
    refine v_goto 13 rfl (tgt := 41) rfl ?_
    exact h
set_option maxHeartbeats 8000000 in
set_option maxRecDepth 4000 in
theorem bX12_load_41 {d n : Nat} {dy : Nat → Shp} {g : Hp} {P : Pst} {x1 : Int} {x2 : Int} {xs0 : Int} (hn : 100 ≤ n) (h : P (some (I_ xs0)) n (W0 dy) g) : V miX12_load (d + 1) 41 [(0, .ref 53), (1, I_ x1), (2, I_ x2)] [I_ xs0] n (W0 dy) g 0 0 P := by
  exact v_ret (v := some (I_ xs0)) 24 rfl (Nat.zero_le _) (Nat.zero_le _) trivial rfl h
theorem wX12_load {d n : Nat} {dy : Nat → Shp} {g : Hp} {P : Pst} {x1 : Int} {x2 : Int} (hn : 100 ≤ n) (h : Runs miX12_placed d [.ref 53, I_ x1, I_ x2] n (W0 dy) (up2 g 53 1 0) (fun v n' S' g' => V miX12_load (d + 1) 12 [(0, .ref 53), (1, I_ x1), (2, I_ x2)] (v.toList ++ [.ref 53]) n' S' g' 0 0 P)) : Runs miX12_load (d + 1) [.ref 53, I_ x1, I_ x2] n (W0 dy) g P := Runs.of rfl rfl deX12_load (Nat.le_of_ble_eq_true rfl) (bX12_load_0 hn h)
theorem fl12_26_11 : FL RX12 26 11 8 true (.array .int) := ⟨RX12, TX12, 58, "MobileMakerModel", rfl, rfl, by decide, kf11, tbG_in (List.mem_append_right _ (List.mem_of_getElem? (i := 1135) (by decide +kernel))) rfl, Or.inl rfl, rfl, by decide +kernel, ⟨tyX12, tyX12_ok⟩, nmX12, fun _ => rfl⟩
theorem fl12_23_11 : FL RX12 23 11 7 true (.array .int) := ⟨RX12, TX12, 58, "MobileMakerModel", rfl, rfl, by decide, kf11, tbG_in (List.mem_append_right _ (List.mem_of_getElem? (i := 1134) (by decide +kernel))) rfl, Or.inl rfl, rfl, by decide +kernel, ⟨tyX12, tyX12_ok⟩, nmX12, fun _ => rfl⟩
theorem fl12_41_11 : FL RX12 41 11 13 true (.array .long) := ⟨RX12, TX12, 58, "MobileMakerModel", rfl, rfl, by decide, kf11, tbG_in (List.mem_append_right _ (List.mem_of_getElem? (i := 1140) (by decide +kernel))) rfl, Or.inl rfl, rfl, by decide +kernel, ⟨tyX12, tyX12_ok⟩, nmX12, fun _ => rfl⟩
theorem fl12_44_11 : FL RX12 44 11 14 true (.array .long) := ⟨RX12, TX12, 58, "MobileMakerModel", rfl, rfl, by decide, kf11, tbG_in (List.mem_append_right _ (List.mem_of_getElem? (i := 1141) (by decide +kernel))) rfl, Or.inl rfl, rfl, by decide +kernel, ⟨tyX12, tyX12_ok⟩, nmX12, fun _ => rfl⟩
theorem lv12_174_rod_11 : LkV miX12_rod miX12_refuse 174 1 11 := ⟨⟨⟨tbG_in (List.mem_append_right _ (List.mem_of_getElem? (i := 1351) (by decide +kernel))) rfl, tbG_in (List.mem_append_right _ (List.mem_of_getElem? (i := 9) (by decide +kernel))) rfl, tbG_in (List.mem_append_right _ (List.mem_of_getElem? (i := 1348) (by decide +kernel))) rfl⟩, ⟨by decide +kernel, by decide +kernel, by decide +kernel⟩, by decide⟩, tbG_in (List.mem_append_right _ (List.mem_of_getElem? (i := 1350) (by decide +kernel))) rfl, RX12, TX12, 58, rfl, tbG_in (List.mem_append_left _ (List.mem_of_getElem? (i := 50) (by decide +kernel))) rfl⟩
theorem lv12_178_rod_11 : LkV miX12_rod miX12_newPart 178 2 11 := ⟨⟨⟨tbG_in (List.mem_append_right _ (List.mem_of_getElem? (i := 1355) (by decide +kernel))) rfl, tbG_in (List.mem_append_right _ (List.mem_of_getElem? (i := 9) (by decide +kernel))) rfl, tbG_in (List.mem_append_right _ (List.mem_of_getElem? (i := 1352) (by decide +kernel))) rfl⟩, ⟨by decide +kernel, by decide +kernel, by decide +kernel⟩, by decide⟩, tbG_in (List.mem_append_right _ (List.mem_of_getElem? (i := 1354) (by decide +kernel))) rfl, RX12, TX12, 58, rfl, tbG_in (List.mem_append_left _ (List.mem_of_getElem? (i := 51) (by decide +kernel))) rfl⟩
set_option maxHeartbeats 8000000 in
set_option maxRecDepth 4000 in
theorem bX12_rod_0 {d n : Nat} {dy : Nat → Shp} {g : Hp} {P : Pst} {x1 : Int} {x2 : Int} {x3 : Int} (hn : 100 ≤ n) (h : (i3 x1) ∧ ((x1 < 2) → Runs miX12_refuse d [.ref 53, I_ 7] n (W0 dy) (up2 (up2 g 53 1 0) 53 0 0) (fun v n' S' g' => V miX12_rod (d + 1) 39 [(0, .ref 53), (1, I_ x1), (2, I_ x2), (3, I_ x3)] (v.toList ++ []) n' S' g' 0 0 P)) ∧ ((2 ≤ x1) → ((1000 < x1) → Runs miX12_refuse d [.ref 53, I_ 7] n (W0 dy) (up2 (up2 g 53 1 0) 53 0 0) (fun v n' S' g' => V miX12_rod (d + 1) 39 [(0, .ref 53), (1, I_ x1), (2, I_ x2), (3, I_ x3)] (v.toList ++ []) n' S' g' 0 0 P)) ∧ ((x1 ≤ 1000) → (i3 x2) ∧ ((x2 < 0) → Runs miX12_refuse d [.ref 53, I_ 7] n (W0 dy) (up2 (up2 g 53 1 0) 53 0 0) (fun v n' S' g' => V miX12_rod (d + 1) 39 [(0, .ref 53), (1, I_ x1), (2, I_ x2), (3, I_ x3)] (v.toList ++ []) n' S' g' 0 0 P)) ∧ ((0 ≤ x2) → ((x2 ≤ 1000) → (((g 53 5) ≠ 60) → (i3 x3) ∧ ((x3 = 0) → Runs miX12_newPart d [.ref 53, I_ 2, L_ (x1 * x2)] n (W0 dy) (up2 (up2 g 53 1 0) 53 0 0) (fun v n' S' g' => V miX12_rod (d + 1) 74 [(0, .ref 53), (1, I_ x1), (2, I_ x2), (3, I_ x3)] (v.toList ++ []) n' S' g' 0 0 P)) ∧ ((x3 ≠ 0) → Runs miX12_newPart d [.ref 53, I_ 3, L_ (x1 * x2)] n (W0 dy) (up2 (up2 g 53 1 0) 53 0 0) (fun v n' S' g' => V miX12_rod (d + 1) 74 [(0, .ref 53), (1, I_ x1), (2, I_ x2), (3, I_ x3)] (v.toList ++ []) n' S' g' 0 0 P))) ∧ (((g 53 5) = 60) → Runs miX12_refuse d [.ref 53, I_ 10] n (W0 dy) (up2 (up2 g 53 1 0) 53 0 0) (fun v n' S' g' => V miX12_rod (d + 1) 55 [(0, .ref 53), (1, I_ x1), (2, I_ x2), (3, I_ x3)] (v.toList ++ []) n' S' g' 0 0 P))) ∧ ((1000 < x2) → Runs miX12_refuse d [.ref 53, I_ 7] n (W0 dy) (up2 (up2 g 53 1 0) 53 0 0) (fun v n' S' g' => V miX12_rod (d + 1) 39 [(0, .ref 53), (1, I_ x1), (2, I_ x2), (3, I_ x3)] (v.toList ++ []) n' S' g' 0 0 P)))))) : V miX12_rod (d + 1) 0 [(0, .ref 53), (1, I_ x1), (2, I_ x2), (3, I_ x3)] [] n (W0 dy) g 0 0 P := by
  refine v_aload_n 0 0 rfl rfl rfl ?_
  refine v_iconst 1 rfl ?_
  refine v_putI 2 rfl fl12_148_11 (al 53 rfl hn) (wk53 dy) (by decide) rfl (wc53_1 dy) (by decide) ?_
  refine v_aload_n 3 0 rfl rfl rfl ?_
  refine v_iconst 4 rfl ?_
  refine v_putI 5 rfl fl12_152_11 (al 53 rfl hn) (wk53 dy) (by decide) rfl (wc53_0 dy) (by decide) ?_
  refine v_iload_n 6 1 rfl rfl rfl ?_
  refine v_iconst 7 rfl ?_
  have c1 := h.1
  have h := h.2
  refine v_icmp_lt 8 rfl (tgt := 33) rfl c1 (by decide) (fun q2 => ?_) (fun q2 => ?_)
  · have h := h.1 q2
    refine v_aload_n 17 0 rfl rfl rfl ?_
    refine v_bipush 18 rfl (by decide) ?_
    refine v_callV (st := []) [I_ 7] 19 rfl lv12_174_rod_11 (al 53 rfl hn) (wk53 dy) (by decide) rfl (Nat.le_refl _) (Nat.le_refl _) ?_
    exact h
  · have h := h.2 q2
    refine v_iload_n 9 1 rfl rfl rfl ?_
    refine v_sipush 10 rfl (by decide) ?_
    refine v_icmp_gt 11 rfl (tgt := 33) rfl c1 (by decide) (fun q3 => ?_) (fun q3 => ?_)
    · have h := h.1 q3
      refine v_aload_n 17 0 rfl rfl rfl ?_
      refine v_bipush 18 rfl (by decide) ?_
      refine v_callV (st := []) [I_ 7] 19 rfl lv12_174_rod_11 (al 53 rfl hn) (wk53 dy) (by decide) rfl (Nat.le_refl _) (Nat.le_refl _) ?_
      exact h
    · have h := h.2 q3
      refine v_iload_n 12 2 rfl rfl rfl ?_
      have c4 := h.1
      have h := h.2
      refine v_if_lt 13 rfl (tgt := 33) rfl c4 (fun q5 => ?_) (fun q5 => ?_)
      · have h := h.1 q5
        refine v_aload_n 17 0 rfl rfl rfl ?_
        refine v_bipush 18 rfl (by decide) ?_
        refine v_callV (st := []) [I_ 7] 19 rfl lv12_174_rod_11 (al 53 rfl hn) (wk53 dy) (by decide) rfl (Nat.le_refl _) (Nat.le_refl _) ?_
        exact h
      · have h := h.2 q5
        refine v_iload_n 14 2 rfl rfl rfl ?_
        refine v_sipush 15 rfl (by decide) ?_
        refine v_icmp_le 16 rfl (tgt := 40) rfl c4 (by decide) (fun q6 => ?_) (fun q6 => ?_)
        · have h := h.1 q6
          refine v_aload_n 21 0 rfl rfl rfl ?_
          refine v_gI 22 rfl fl12_169_11.r (al 53 rfl hn) (wk53 dy) (by decide) rfl (wc53_5 dy) (x := g 53 5) rfl ?_
          refine v_rng fun w7 => ?_
          have p8 : i3 (g 53 5) := rI w7 (q := 5) (al 53 rfl hn) (wk53 dy) rfl rfl
          refine v_bipush 23 rfl (by decide) ?_
          refine v_icmp_ne 24 rfl (tgt := 56) rfl p8 (by decide) (fun q9 => ?_) (fun q9 => ?_)
          · have h := h.1 q9
            refine v_aload_n 29 0 rfl rfl rfl ?_
            refine v_iload_n 30 3 rfl rfl rfl ?_
            have c10 := h.1
            have h := h.2
            refine v_if_eq 31 rfl (tgt := 65) rfl c10 (fun q11 => ?_) (fun q11 => ?_)
            · have h := h.1 q11
              refine v_iconst 34 rfl ?_
              refine v_iload_n 35 1 rfl rfl rfl ?_
              refine v_i2l 36 rfl c1 ?_
              refine v_iload_n 37 2 rfl rfl rfl ?_
              refine v_i2l 38 rfl c4 ?_
              refine v_lmul 39 rfl ?_
              refine v_callV (st := []) [I_ 2, L_ (x1 * x2)] 40 rfl lv12_178_rod_11 (al 53 rfl hn) (wk53 dy) (by decide) rfl (Nat.le_refl _) (Nat.le_refl _) ?_
              exact h
            · have h := h.2 q11
              refine v_iconst 32 rfl ?_
              refine v_goto 33 rfl (tgt := 66) rfl ?_
              refine v_iload_n 35 1 rfl rfl rfl ?_
              refine v_i2l 36 rfl c1 ?_
              refine v_iload_n 37 2 rfl rfl rfl ?_
              refine v_i2l 38 rfl c4 ?_
              refine v_lmul 39 rfl ?_
              refine v_callV (st := []) [I_ 3, L_ (x1 * x2)] 40 rfl lv12_178_rod_11 (al 53 rfl hn) (wk53 dy) (by decide) rfl (Nat.le_refl _) (Nat.le_refl _) ?_
              exact h
          · have h := h.2 q9
            refine v_aload_n 25 0 rfl rfl rfl ?_
            refine v_bipush 26 rfl (by decide) ?_
            refine v_callV (st := []) [I_ 10] 27 rfl lv12_174_rod_11 (al 53 rfl hn) (wk53 dy) (by decide) rfl (Nat.le_refl _) (Nat.le_refl _) ?_
            exact h
        · have h := h.2 q6
          refine v_aload_n 17 0 rfl rfl rfl ?_
          refine v_bipush 18 rfl (by decide) ?_
          refine v_callV (st := []) [I_ 7] 19 rfl lv12_174_rod_11 (al 53 rfl hn) (wk53 dy) (by decide) rfl (Nat.le_refl _) (Nat.le_refl _) ?_
          exact h
set_option maxHeartbeats 8000000 in
set_option maxRecDepth 4000 in
theorem bX12_rod_39 {d n : Nat} {dy : Nat → Shp} {g : Hp} {P : Pst} {x1 : Int} {x2 : Int} {x3 : Int} {xs0 : Int} (hn : 100 ≤ n) (h : P (some (I_ xs0)) n (W0 dy) g) : V miX12_rod (d + 1) 39 [(0, .ref 53), (1, I_ x1), (2, I_ x2), (3, I_ x3)] [I_ xs0] n (W0 dy) g 0 0 P := by
  exact v_ret (v := some (I_ xs0)) 20 rfl (Nat.zero_le _) (Nat.zero_le _) trivial rfl h
set_option maxHeartbeats 8000000 in
set_option maxRecDepth 4000 in
theorem bX12_rod_55 {d n : Nat} {dy : Nat → Shp} {g : Hp} {P : Pst} {x1 : Int} {x2 : Int} {x3 : Int} {xs0 : Int} (hn : 100 ≤ n) (h : P (some (I_ xs0)) n (W0 dy) g) : V miX12_rod (d + 1) 55 [(0, .ref 53), (1, I_ x1), (2, I_ x2), (3, I_ x3)] [I_ xs0] n (W0 dy) g 0 0 P := by
  exact v_ret (v := some (I_ xs0)) 28 rfl (Nat.zero_le _) (Nat.zero_le _) trivial rfl h
set_option maxHeartbeats 8000000 in
set_option maxRecDepth 4000 in
theorem bX12_rod_74 {d n : Nat} {dy : Nat → Shp} {g : Hp} {P : Pst} {x1 : Int} {x2 : Int} {x3 : Int} {xs0 : Int} (hn : 100 ≤ n) (h : (0 ≤ xs0 ∧ xs0 < 60) ∧ (i3 x1) ∧ (i3 x2) ∧ P (some (I_ xs0)) n (W0 dy) (up2 (up2 (up2 (up2 g 59 xs0.toNat x1) 58 xs0.toNat x2) 64 xs0.toNat 1) 65 xs0.toNat 2)) : V miX12_rod (d + 1) 74 [(0, .ref 53), (1, I_ x1), (2, I_ x2), (3, I_ x3)] [I_ xs0] n (W0 dy) g 0 0 P := by
  refine v_istore 41 [1, 2, 3, 4, 0] rfl (by decide) rfl ?_
  refine v_aload_n 42 0 rfl rfl rfl ?_
  refine v_gK 43 rfl fl12_26_11.r (al 53 rfl hn) (wk53 dy) (by decide) rfl (r := 59) (wc53_8 dy) ?_
  refine v_iload 44 4 rfl rfl ?_
  refine v_iload_n 45 1 rfl rfl rfl ?_
  have c1 := h.1
  have h := h.2
  have c2 := h.1
  have h := h.2
  refine v_iast (N := 60) 46 rfl (al 59 rfl hn) (wk59 dy) (wn59 dy) (by decide) c1 c2 ?_
  refine v_aload_n 47 0 rfl rfl rfl ?_
  refine v_gK 48 rfl fl12_23_11.r (al 53 rfl hn) (wk53 dy) (by decide) rfl (r := 58) (wc53_7 dy) ?_
  refine v_iload 49 4 rfl rfl ?_
  refine v_iload_n 50 2 rfl rfl rfl ?_
  have c3 := h.1
  have h := h.2
  refine v_iast (N := 60) 51 rfl (al 58 rfl hn) (wk58 dy) (wn58 dy) (by decide) c1 c3 ?_
  refine v_aload_n 52 0 rfl rfl rfl ?_
  refine v_gK 53 rfl fl12_41_11.r (al 53 rfl hn) (wk53 dy) (by decide) rfl (r := 64) (wc53_13 dy) ?_
  refine v_iload 54 4 rfl rfl ?_
  refine v_lconst (v := 1) 55 rfl (by decide) ?_
  refine v_last (N := 60) 56 rfl (al 64 rfl hn) (wk64 dy) (wn64 dy) (by decide) c1 (by decide) ?_
  refine v_aload_n 57 0 rfl rfl rfl ?_
  refine v_gK 58 rfl fl12_44_11.r (al 53 rfl hn) (wk53 dy) (by decide) rfl (r := 65) (wc53_14 dy) ?_
  refine v_iload 59 4 rfl rfl ?_
  refine v_ldc2 (v := 2) 60 rfl (tbG_in (List.mem_append_right _ (List.mem_of_getElem? (i := 1364) (by decide +kernel))) rfl) ?_
  refine v_last (N := 60) 61 rfl (al 65 rfl hn) (wk65 dy) (wn65 dy) (by decide) c1 (by decide) ?_
  refine v_iload 62 4 rfl rfl ?_
  exact v_ret (v := some (I_ xs0)) 63 rfl (Nat.zero_le _) (Nat.zero_le _) trivial rfl h
theorem wX12_rod {d n : Nat} {dy : Nat → Shp} {g : Hp} {P : Pst} {x1 : Int} {x2 : Int} {x3 : Int} (hn : 100 ≤ n) (h : (i3 x1) ∧ ((x1 < 2) → Runs miX12_refuse d [.ref 53, I_ 7] n (W0 dy) (up2 (up2 g 53 1 0) 53 0 0) (fun v n' S' g' => V miX12_rod (d + 1) 39 [(0, .ref 53), (1, I_ x1), (2, I_ x2), (3, I_ x3)] (v.toList ++ []) n' S' g' 0 0 P)) ∧ ((2 ≤ x1) → ((1000 < x1) → Runs miX12_refuse d [.ref 53, I_ 7] n (W0 dy) (up2 (up2 g 53 1 0) 53 0 0) (fun v n' S' g' => V miX12_rod (d + 1) 39 [(0, .ref 53), (1, I_ x1), (2, I_ x2), (3, I_ x3)] (v.toList ++ []) n' S' g' 0 0 P)) ∧ ((x1 ≤ 1000) → (i3 x2) ∧ ((x2 < 0) → Runs miX12_refuse d [.ref 53, I_ 7] n (W0 dy) (up2 (up2 g 53 1 0) 53 0 0) (fun v n' S' g' => V miX12_rod (d + 1) 39 [(0, .ref 53), (1, I_ x1), (2, I_ x2), (3, I_ x3)] (v.toList ++ []) n' S' g' 0 0 P)) ∧ ((0 ≤ x2) → ((x2 ≤ 1000) → (((g 53 5) ≠ 60) → (i3 x3) ∧ ((x3 = 0) → Runs miX12_newPart d [.ref 53, I_ 2, L_ (x1 * x2)] n (W0 dy) (up2 (up2 g 53 1 0) 53 0 0) (fun v n' S' g' => V miX12_rod (d + 1) 74 [(0, .ref 53), (1, I_ x1), (2, I_ x2), (3, I_ x3)] (v.toList ++ []) n' S' g' 0 0 P)) ∧ ((x3 ≠ 0) → Runs miX12_newPart d [.ref 53, I_ 3, L_ (x1 * x2)] n (W0 dy) (up2 (up2 g 53 1 0) 53 0 0) (fun v n' S' g' => V miX12_rod (d + 1) 74 [(0, .ref 53), (1, I_ x1), (2, I_ x2), (3, I_ x3)] (v.toList ++ []) n' S' g' 0 0 P))) ∧ (((g 53 5) = 60) → Runs miX12_refuse d [.ref 53, I_ 10] n (W0 dy) (up2 (up2 g 53 1 0) 53 0 0) (fun v n' S' g' => V miX12_rod (d + 1) 55 [(0, .ref 53), (1, I_ x1), (2, I_ x2), (3, I_ x3)] (v.toList ++ []) n' S' g' 0 0 P))) ∧ ((1000 < x2) → Runs miX12_refuse d [.ref 53, I_ 7] n (W0 dy) (up2 (up2 g 53 1 0) 53 0 0) (fun v n' S' g' => V miX12_rod (d + 1) 39 [(0, .ref 53), (1, I_ x1), (2, I_ x2), (3, I_ x3)] (v.toList ++ []) n' S' g' 0 0 P)))))) : Runs miX12_rod (d + 1) [.ref 53, I_ x1, I_ x2, I_ x3] n (W0 dy) g P := Runs.of rfl rfl deX12_rod (Nat.le_of_ble_eq_true rfl) (bX12_rod_0 hn h)
theorem fl12_88_11 : FL RX12 88 11 30 true (.array .int) := ⟨RX12, TX12, 58, "MobileMakerModel", rfl, rfl, by decide, kf11, tbG_in (List.mem_append_right _ (List.mem_of_getElem? (i := 1157) (by decide +kernel))) rfl, Or.inl rfl, rfl, by decide +kernel, ⟨tyX12, tyX12_ok⟩, nmX12, fun _ => rfl⟩
theorem fl12_91_11 : FL RX12 91 11 31 true (.array .int) := ⟨RX12, TX12, 58, "MobileMakerModel", rfl, rfl, by decide, kf11, tbG_in (List.mem_append_right _ (List.mem_of_getElem? (i := 1158) (by decide +kernel))) rfl, Or.inl rfl, rfl, by decide +kernel, ⟨tyX12, tyX12_ok⟩, nmX12, fun _ => rfl⟩
set_option maxHeartbeats 8000000 in
set_option maxRecDepth 4000 in
theorem bX12_turn_0 {d n : Nat} {dy : Nat → Shp} {g : Hp} {P : Pst} {x1 : Int} {x2 : Int} {x3 : Int} (hn : 100 ≤ n) (h : (0 ≤ x2 ∧ x2 < 8) ∧ (0 ≤ x1 ∧ x1 < 8) ∧ (i3 ((g 79 x2.toNat) - (g 79 x1.toNat))) ∧ (0 ≤ x3 ∧ x3 < 8) ∧ (i3 ((g 80 x3.toNat) - (g 80 x1.toNat))) ∧ (i3 ((g 80 x2.toNat) - (g 80 x1.toNat))) ∧ (i3 ((g 79 x3.toNat) - (g 79 x1.toNat))) ∧ P (some (L_ ((((g 79 x2.toNat) - (g 79 x1.toNat)) * ((g 80 x3.toNat) - (g 80 x1.toNat))) - (((g 80 x2.toNat) - (g 80 x1.toNat)) * ((g 79 x3.toNat) - (g 79 x1.toNat)))))) n (W0 dy) g) : V miX12_turn d 0 [(0, .ref 53), (1, I_ x1), (2, I_ x2), (3, I_ x3)] [] n (W0 dy) g 0 0 P := by
  refine v_aload_n 0 0 rfl rfl rfl ?_
  refine v_gK 1 rfl fl12_88_11.r (al 53 rfl hn) (wk53 dy) (by decide) rfl (r := 79) (wc53_30 dy) ?_
  refine v_iload_n 2 2 rfl rfl rfl ?_
  have c1 := h.1
  have h := h.2
  refine v_ia (N := 8) 3 rfl (al 79 rfl hn) (wk79 dy) (wn79 dy) (by decide) c1 (y := g 79 x2.toNat) rfl ?_
  refine v_rng fun w2 => ?_
  have p3 : i3 (g 79 x2.toNat) := rI w2 (q := x2.toNat) (al 79 rfl hn) (wk79 dy) rfl rfl
  refine v_aload_n 4 0 rfl rfl rfl ?_
  refine v_gK 5 rfl fl12_88_11.r (al 53 rfl hn) (wk53 dy) (by decide) rfl (r := 79) (wc53_30 dy) ?_
  refine v_iload_n 6 1 rfl rfl rfl ?_
  have c4 := h.1
  have h := h.2
  refine v_ia (N := 8) 7 rfl (al 79 rfl hn) (wk79 dy) (wn79 dy) (by decide) c4 (y := g 79 x1.toNat) rfl ?_
  refine v_rng fun w5 => ?_
  have p6 : i3 (g 79 x1.toNat) := rI w5 (q := x1.toNat) (al 79 rfl hn) (wk79 dy) rfl rfl
  refine v_isub 8 rfl ?_
  have c7 := h.1
  have h := h.2
  refine v_i2l 9 rfl c7 ?_
  refine v_aload_n 10 0 rfl rfl rfl ?_
  refine v_gK 11 rfl fl12_91_11.r (al 53 rfl hn) (wk53 dy) (by decide) rfl (r := 80) (wc53_31 dy) ?_
  refine v_iload_n 12 3 rfl rfl rfl ?_
  have c8 := h.1
  have h := h.2
  refine v_ia (N := 8) 13 rfl (al 80 rfl hn) (wk80 dy) (wn80 dy) (by decide) c8 (y := g 80 x3.toNat) rfl ?_
  refine v_rng fun w9 => ?_
  have p10 : i3 (g 80 x3.toNat) := rI w9 (q := x3.toNat) (al 80 rfl hn) (wk80 dy) rfl rfl
  refine v_aload_n 14 0 rfl rfl rfl ?_
  refine v_gK 15 rfl fl12_91_11.r (al 53 rfl hn) (wk53 dy) (by decide) rfl (r := 80) (wc53_31 dy) ?_
  refine v_iload_n 16 1 rfl rfl rfl ?_
  refine v_ia (N := 8) 17 rfl (al 80 rfl hn) (wk80 dy) (wn80 dy) (by decide) c4 (y := g 80 x1.toNat) rfl ?_
  refine v_rng fun w11 => ?_
  have p12 : i3 (g 80 x1.toNat) := rI w11 (q := x1.toNat) (al 80 rfl hn) (wk80 dy) rfl rfl
  refine v_isub 18 rfl ?_
  have c13 := h.1
  have h := h.2
  refine v_i2l 19 rfl c13 ?_
  refine v_lmul 20 rfl ?_
  refine v_aload_n 21 0 rfl rfl rfl ?_
  refine v_gK 22 rfl fl12_91_11.r (al 53 rfl hn) (wk53 dy) (by decide) rfl (r := 80) (wc53_31 dy) ?_
  refine v_iload_n 23 2 rfl rfl rfl ?_
  refine v_ia (N := 8) 24 rfl (al 80 rfl hn) (wk80 dy) (wn80 dy) (by decide) c1 (y := g 80 x2.toNat) rfl ?_
  refine v_rng fun w14 => ?_
  have p15 : i3 (g 80 x2.toNat) := rI w14 (q := x2.toNat) (al 80 rfl hn) (wk80 dy) rfl rfl
  refine v_aload_n 25 0 rfl rfl rfl ?_
  refine v_gK 26 rfl fl12_91_11.r (al 53 rfl hn) (wk53 dy) (by decide) rfl (r := 80) (wc53_31 dy) ?_
  refine v_iload_n 27 1 rfl rfl rfl ?_
  refine v_ia (N := 8) 28 rfl (al 80 rfl hn) (wk80 dy) (wn80 dy) (by decide) c4 (y := g 80 x1.toNat) rfl ?_
  refine v_rng fun w16 => ?_
  have p17 : i3 (g 80 x1.toNat) := rI w16 (q := x1.toNat) (al 80 rfl hn) (wk80 dy) rfl rfl
  refine v_isub 29 rfl ?_
  have c18 := h.1
  have h := h.2
  refine v_i2l 30 rfl c18 ?_
  refine v_aload_n 31 0 rfl rfl rfl ?_
  refine v_gK 32 rfl fl12_88_11.r (al 53 rfl hn) (wk53 dy) (by decide) rfl (r := 79) (wc53_30 dy) ?_
  refine v_iload_n 33 3 rfl rfl rfl ?_
  refine v_ia (N := 8) 34 rfl (al 79 rfl hn) (wk79 dy) (wn79 dy) (by decide) c8 (y := g 79 x3.toNat) rfl ?_
  refine v_rng fun w19 => ?_
  have p20 : i3 (g 79 x3.toNat) := rI w19 (q := x3.toNat) (al 79 rfl hn) (wk79 dy) rfl rfl
  refine v_aload_n 35 0 rfl rfl rfl ?_
  refine v_gK 36 rfl fl12_88_11.r (al 53 rfl hn) (wk53 dy) (by decide) rfl (r := 79) (wc53_30 dy) ?_
  refine v_iload_n 37 1 rfl rfl rfl ?_
  refine v_ia (N := 8) 38 rfl (al 79 rfl hn) (wk79 dy) (wn79 dy) (by decide) c4 (y := g 79 x1.toNat) rfl ?_
  refine v_rng fun w21 => ?_
  have p22 : i3 (g 79 x1.toNat) := rI w21 (q := x1.toNat) (al 79 rfl hn) (wk79 dy) rfl rfl
  refine v_isub 39 rfl ?_
  have c23 := h.1
  have h := h.2
  refine v_i2l 40 rfl c23 ?_
  refine v_lmul 41 rfl ?_
  refine v_lsub 42 rfl ?_
  exact v_ret (v := some (L_ ((((g 79 x2.toNat) - (g 79 x1.toNat)) * ((g 80 x3.toNat) - (g 80 x1.toNat))) - (((g 80 x2.toNat) - (g 80 x1.toNat)) * ((g 79 x3.toNat) - (g 79 x1.toNat)))))) 43 rfl (Nat.zero_le _) (Nat.zero_le _) trivial rfl h
theorem wX12_turn {d n : Nat} {dy : Nat → Shp} {g : Hp} {P : Pst} {x1 : Int} {x2 : Int} {x3 : Int} (hn : 100 ≤ n) (h : (0 ≤ x2 ∧ x2 < 8) ∧ (0 ≤ x1 ∧ x1 < 8) ∧ (i3 ((g 79 x2.toNat) - (g 79 x1.toNat))) ∧ (0 ≤ x3 ∧ x3 < 8) ∧ (i3 ((g 80 x3.toNat) - (g 80 x1.toNat))) ∧ (i3 ((g 80 x2.toNat) - (g 80 x1.toNat))) ∧ (i3 ((g 79 x3.toNat) - (g 79 x1.toNat))) ∧ P (some (L_ ((((g 79 x2.toNat) - (g 79 x1.toNat)) * ((g 80 x3.toNat) - (g 80 x1.toNat))) - (((g 80 x2.toNat) - (g 80 x1.toNat)) * ((g 79 x3.toNat) - (g 79 x1.toNat)))))) n (W0 dy) g) : Runs miX12_turn d [.ref 53, I_ x1, I_ x2, I_ x3] n (W0 dy) g P := Runs.of rfl rfl deX12_turn (Nat.le_of_ble_eq_true rfl) (bX12_turn_0 hn h)
theorem lm12_188_isOn : LkM miX12_isOn 188 Lib.Math.min.name Lib.Math.min.code 2 .int := ⟨tbG_in (List.mem_append_right _ (List.mem_of_getElem? (i := 1379) (by decide +kernel))) rfl, tbG_in (List.mem_append_right _ (List.mem_of_getElem? (i := 500) (by decide +kernel))) rfl, tbG_in (List.mem_append_right _ (List.mem_of_getElem? (i := 15) (by decide +kernel))) rfl, tbG_in (List.mem_append_right _ (List.mem_of_getElem? (i := 501) (by decide +kernel))) rfl⟩
theorem lm12_193_isOn : LkM miX12_isOn 193 Lib.Math.max.name Lib.Math.max.code 2 .int := ⟨tbG_in (List.mem_append_right _ (List.mem_of_getElem? (i := 1380) (by decide +kernel))) rfl, tbG_in (List.mem_append_right _ (List.mem_of_getElem? (i := 536) (by decide +kernel))) rfl, tbG_in (List.mem_append_right _ (List.mem_of_getElem? (i := 15) (by decide +kernel))) rfl, tbG_in (List.mem_append_right _ (List.mem_of_getElem? (i := 537) (by decide +kernel))) rfl⟩
theorem lv12_196_isOn_11 : LkV miX12_isOn miX12_turn 196 3 11 := ⟨⟨⟨tbG_in (List.mem_append_right _ (List.mem_of_getElem? (i := 1384) (by decide +kernel))) rfl, tbG_in (List.mem_append_right _ (List.mem_of_getElem? (i := 9) (by decide +kernel))) rfl, tbG_in (List.mem_append_right _ (List.mem_of_getElem? (i := 1381) (by decide +kernel))) rfl⟩, ⟨by decide +kernel, by decide +kernel, by decide +kernel⟩, by decide⟩, tbG_in (List.mem_append_right _ (List.mem_of_getElem? (i := 1383) (by decide +kernel))) rfl, RX12, TX12, 58, rfl, tbG_in (List.mem_append_left _ (List.mem_of_getElem? (i := 54) (by decide +kernel))) rfl⟩
set_option maxHeartbeats 8000000 in
set_option maxRecDepth 4000 in
theorem bX12_isOn_0 {d n : Nat} {dy : Nat → Shp} {g : Hp} {P : Pst} {x1 : Int} {x2 : Int} {x3 : Int} (hn : 100 ≤ n) (h : (0 ≤ x1 ∧ x1 < 8) ∧ (0 ≤ x2 ∧ x2 < 8) ∧ (0 ≤ x3 ∧ x3 < 8) ∧ (((g 79 x3.toNat) < (min (g 79 x1.toNat) (g 79 x2.toNat))) → P (some (I_ 0)) n (W0 dy) g) ∧ (((min (g 79 x1.toNat) (g 79 x2.toNat)) ≤ (g 79 x3.toNat)) → (((max (g 79 x1.toNat) (g 79 x2.toNat)) < (g 79 x3.toNat)) → P (some (I_ 0)) n (W0 dy) g) ∧ (((g 79 x3.toNat) ≤ (max (g 79 x1.toNat) (g 79 x2.toNat))) → (((g 80 x3.toNat) < (min (g 80 x1.toNat) (g 80 x2.toNat))) → P (some (I_ 0)) n (W0 dy) g) ∧ (((min (g 80 x1.toNat) (g 80 x2.toNat)) ≤ (g 80 x3.toNat)) → (((max (g 80 x1.toNat) (g 80 x2.toNat)) < (g 80 x3.toNat)) → P (some (I_ 0)) n (W0 dy) g) ∧ (((g 80 x3.toNat) ≤ (max (g 80 x1.toNat) (g 80 x2.toNat))) → Runs miX12_turn d [.ref 53, I_ x1, I_ x2, I_ x3] n (W0 dy) g (fun v n' S' g' => V miX12_isOn (d + 1) 115 [(0, .ref 53), (1, I_ x1), (2, I_ x2), (3, I_ x3), (4, I_ 1)] (v.toList ++ []) n' S' g' 0 0 P)))))) : V miX12_isOn (d + 1) 0 [(0, .ref 53), (1, I_ x1), (2, I_ x2), (3, I_ x3)] [] n (W0 dy) g 0 0 P := by
  refine v_aload_n 0 0 rfl rfl rfl ?_
  refine v_gK 1 rfl fl12_88_11.r (al 53 rfl hn) (wk53 dy) (by decide) rfl (r := 79) (wc53_30 dy) ?_
  refine v_iload_n 2 1 rfl rfl rfl ?_
  have c1 := h.1
  have h := h.2
  refine v_ia (N := 8) 3 rfl (al 79 rfl hn) (wk79 dy) (wn79 dy) (by decide) c1 (y := g 79 x1.toNat) rfl ?_
  refine v_rng fun w2 => ?_
  have p3 : i3 (g 79 x1.toNat) := rI w2 (q := x1.toNat) (al 79 rfl hn) (wk79 dy) rfl rfl
  refine v_aload_n 4 0 rfl rfl rfl ?_
  refine v_gK 5 rfl fl12_88_11.r (al 53 rfl hn) (wk53 dy) (by decide) rfl (r := 79) (wc53_30 dy) ?_
  refine v_iload_n 6 2 rfl rfl rfl ?_
  have c4 := h.1
  have h := h.2
  refine v_ia (N := 8) 7 rfl (al 79 rfl hn) (wk79 dy) (wn79 dy) (by decide) c4 (y := g 79 x2.toNat) rfl ?_
  refine v_rng fun w5 => ?_
  have p6 : i3 (g 79 x2.toNat) := rI w5 (q := x2.toNat) (al 79 rfl hn) (wk79 dy) rfl rfl
  refine v_mmin (st := []) 8 rfl lm12_188_isOn rfl (Nat.zero_le _) (Nat.zero_le _) p3 p6 ?_
  refine v_aload_n 9 0 rfl rfl rfl ?_
  refine v_gK 10 rfl fl12_88_11.r (al 53 rfl hn) (wk53 dy) (by decide) rfl (r := 79) (wc53_30 dy) ?_
  refine v_iload_n 11 3 rfl rfl rfl ?_
  have c7 := h.1
  have h := h.2
  refine v_ia (N := 8) 12 rfl (al 79 rfl hn) (wk79 dy) (wn79 dy) (by decide) c7 (y := g 79 x3.toNat) rfl ?_
  refine v_rng fun w8 => ?_
  have p9 : i3 (g 79 x3.toNat) := rI w8 (q := x3.toNat) (al 79 rfl hn) (wk79 dy) rfl rfl
  refine v_icmp_gt 13 rfl (tgt := 100) rfl (min_i3 p3 p6) p9 (fun q10 => ?_) (fun q10 => ?_)
  · have h := h.1 q10
    refine v_iconst 58 rfl ?_
    refine v_istore 59 [1, 2, 3, 4, 0] rfl (by decide) rfl ?_
    refine v_iload 60 4 rfl rfl ?_
    refine v_if_eq 61 rfl (tgt := 124) rfl (by decide) (fun q11 => ?_) (fun q11 => ?_)
    · refine v_iconst 72 rfl ?_
      exact v_ret (v := some (I_ 0)) 73 rfl (Nat.zero_le _) (Nat.zero_le _) (Or.inl rfl) rfl h
    · exact absurd q11 (by decide)
  · have h := h.2 q10
    refine v_aload_n 14 0 rfl rfl rfl ?_
    refine v_gK 15 rfl fl12_88_11.r (al 53 rfl hn) (wk53 dy) (by decide) rfl (r := 79) (wc53_30 dy) ?_
    refine v_iload_n 16 3 rfl rfl rfl ?_
    refine v_ia (N := 8) 17 rfl (al 79 rfl hn) (wk79 dy) (wn79 dy) (by decide) c7 (y := g 79 x3.toNat) rfl ?_
    refine v_rng fun w12 => ?_
    have p13 : i3 (g 79 x3.toNat) := rI w12 (q := x3.toNat) (al 79 rfl hn) (wk79 dy) rfl rfl
    refine v_aload_n 18 0 rfl rfl rfl ?_
    refine v_gK 19 rfl fl12_88_11.r (al 53 rfl hn) (wk53 dy) (by decide) rfl (r := 79) (wc53_30 dy) ?_
    refine v_iload_n 20 1 rfl rfl rfl ?_
    refine v_ia (N := 8) 21 rfl (al 79 rfl hn) (wk79 dy) (wn79 dy) (by decide) c1 (y := g 79 x1.toNat) rfl ?_
    refine v_rng fun w14 => ?_
    have p15 : i3 (g 79 x1.toNat) := rI w14 (q := x1.toNat) (al 79 rfl hn) (wk79 dy) rfl rfl
    refine v_aload_n 22 0 rfl rfl rfl ?_
    refine v_gK 23 rfl fl12_88_11.r (al 53 rfl hn) (wk53 dy) (by decide) rfl (r := 79) (wc53_30 dy) ?_
    refine v_iload_n 24 2 rfl rfl rfl ?_
    refine v_ia (N := 8) 25 rfl (al 79 rfl hn) (wk79 dy) (wn79 dy) (by decide) c4 (y := g 79 x2.toNat) rfl ?_
    refine v_rng fun w16 => ?_
    have p17 : i3 (g 79 x2.toNat) := rI w16 (q := x2.toNat) (al 79 rfl hn) (wk79 dy) rfl rfl
    refine v_mmax (st := [I_ (g 79 x3.toNat)]) 26 rfl lm12_193_isOn rfl (Nat.zero_le _) (Nat.zero_le _) p15 p17 ?_
    refine v_icmp_gt 27 rfl (tgt := 100) rfl p13 (max_i3 p15 p17) (fun q18 => ?_) (fun q18 => ?_)
    · have h := h.1 q18
      refine v_iconst 58 rfl ?_
      refine v_istore 59 [1, 2, 3, 4, 0] rfl (by decide) rfl ?_
      refine v_iload 60 4 rfl rfl ?_
      refine v_if_eq 61 rfl (tgt := 124) rfl (by decide) (fun q19 => ?_) (fun q19 => ?_)
      · refine v_iconst 72 rfl ?_
        exact v_ret (v := some (I_ 0)) 73 rfl (Nat.zero_le _) (Nat.zero_le _) (Or.inl rfl) rfl h
      · exact absurd q19 (by decide)
    · have h := h.2 q18
      refine v_aload_n 28 0 rfl rfl rfl ?_
      refine v_gK 29 rfl fl12_91_11.r (al 53 rfl hn) (wk53 dy) (by decide) rfl (r := 80) (wc53_31 dy) ?_
      refine v_iload_n 30 1 rfl rfl rfl ?_
      refine v_ia (N := 8) 31 rfl (al 80 rfl hn) (wk80 dy) (wn80 dy) (by decide) c1 (y := g 80 x1.toNat) rfl ?_
      refine v_rng fun w20 => ?_
      have p21 : i3 (g 80 x1.toNat) := rI w20 (q := x1.toNat) (al 80 rfl hn) (wk80 dy) rfl rfl
      refine v_aload_n 32 0 rfl rfl rfl ?_
      refine v_gK 33 rfl fl12_91_11.r (al 53 rfl hn) (wk53 dy) (by decide) rfl (r := 80) (wc53_31 dy) ?_
      refine v_iload_n 34 2 rfl rfl rfl ?_
      refine v_ia (N := 8) 35 rfl (al 80 rfl hn) (wk80 dy) (wn80 dy) (by decide) c4 (y := g 80 x2.toNat) rfl ?_
      refine v_rng fun w22 => ?_
      have p23 : i3 (g 80 x2.toNat) := rI w22 (q := x2.toNat) (al 80 rfl hn) (wk80 dy) rfl rfl
      refine v_mmin (st := []) 36 rfl lm12_188_isOn rfl (Nat.zero_le _) (Nat.zero_le _) p21 p23 ?_
      refine v_aload_n 37 0 rfl rfl rfl ?_
      refine v_gK 38 rfl fl12_91_11.r (al 53 rfl hn) (wk53 dy) (by decide) rfl (r := 80) (wc53_31 dy) ?_
      refine v_iload_n 39 3 rfl rfl rfl ?_
      refine v_ia (N := 8) 40 rfl (al 80 rfl hn) (wk80 dy) (wn80 dy) (by decide) c7 (y := g 80 x3.toNat) rfl ?_
      refine v_rng fun w24 => ?_
      have p25 : i3 (g 80 x3.toNat) := rI w24 (q := x3.toNat) (al 80 rfl hn) (wk80 dy) rfl rfl
      refine v_icmp_gt 41 rfl (tgt := 100) rfl (min_i3 p21 p23) p25 (fun q26 => ?_) (fun q26 => ?_)
      · have h := h.1 q26
        refine v_iconst 58 rfl ?_
        refine v_istore 59 [1, 2, 3, 4, 0] rfl (by decide) rfl ?_
        refine v_iload 60 4 rfl rfl ?_
        refine v_if_eq 61 rfl (tgt := 124) rfl (by decide) (fun q27 => ?_) (fun q27 => ?_)
        · refine v_iconst 72 rfl ?_
          exact v_ret (v := some (I_ 0)) 73 rfl (Nat.zero_le _) (Nat.zero_le _) (Or.inl rfl) rfl h
        · exact absurd q27 (by decide)
      · have h := h.2 q26
        refine v_aload_n 42 0 rfl rfl rfl ?_
        refine v_gK 43 rfl fl12_91_11.r (al 53 rfl hn) (wk53 dy) (by decide) rfl (r := 80) (wc53_31 dy) ?_
        refine v_iload_n 44 3 rfl rfl rfl ?_
        refine v_ia (N := 8) 45 rfl (al 80 rfl hn) (wk80 dy) (wn80 dy) (by decide) c7 (y := g 80 x3.toNat) rfl ?_
        refine v_rng fun w28 => ?_
        have p29 : i3 (g 80 x3.toNat) := rI w28 (q := x3.toNat) (al 80 rfl hn) (wk80 dy) rfl rfl
        refine v_aload_n 46 0 rfl rfl rfl ?_
        refine v_gK 47 rfl fl12_91_11.r (al 53 rfl hn) (wk53 dy) (by decide) rfl (r := 80) (wc53_31 dy) ?_
        refine v_iload_n 48 1 rfl rfl rfl ?_
        refine v_ia (N := 8) 49 rfl (al 80 rfl hn) (wk80 dy) (wn80 dy) (by decide) c1 (y := g 80 x1.toNat) rfl ?_
        refine v_rng fun w30 => ?_
        have p31 : i3 (g 80 x1.toNat) := rI w30 (q := x1.toNat) (al 80 rfl hn) (wk80 dy) rfl rfl
        refine v_aload_n 50 0 rfl rfl rfl ?_
        refine v_gK 51 rfl fl12_91_11.r (al 53 rfl hn) (wk53 dy) (by decide) rfl (r := 80) (wc53_31 dy) ?_
        refine v_iload_n 52 2 rfl rfl rfl ?_
        refine v_ia (N := 8) 53 rfl (al 80 rfl hn) (wk80 dy) (wn80 dy) (by decide) c4 (y := g 80 x2.toNat) rfl ?_
        refine v_rng fun w32 => ?_
        have p33 : i3 (g 80 x2.toNat) := rI w32 (q := x2.toNat) (al 80 rfl hn) (wk80 dy) rfl rfl
        refine v_mmax (st := [I_ (g 80 x3.toNat)]) 54 rfl lm12_193_isOn rfl (Nat.zero_le _) (Nat.zero_le _) p31 p33 ?_
        refine v_icmp_gt 55 rfl (tgt := 100) rfl p29 (max_i3 p31 p33) (fun q34 => ?_) (fun q34 => ?_)
        · have h := h.1 q34
          refine v_iconst 58 rfl ?_
          refine v_istore 59 [1, 2, 3, 4, 0] rfl (by decide) rfl ?_
          refine v_iload 60 4 rfl rfl ?_
          refine v_if_eq 61 rfl (tgt := 124) rfl (by decide) (fun q35 => ?_) (fun q35 => ?_)
          · refine v_iconst 72 rfl ?_
            exact v_ret (v := some (I_ 0)) 73 rfl (Nat.zero_le _) (Nat.zero_le _) (Or.inl rfl) rfl h
          · exact absurd q35 (by decide)
        · have h := h.2 q34
          refine v_iconst 56 rfl ?_
          refine v_goto 57 rfl (tgt := 101) rfl ?_
          refine v_istore 59 [1, 2, 3, 4, 0] rfl (by decide) rfl ?_
          refine v_iload 60 4 rfl rfl ?_
          refine v_if_eq 61 rfl (tgt := 124) rfl (by decide) (fun q36 => ?_) (fun q36 => ?_)
          · exact absurd q36 (by decide)
          · refine v_aload_n 62 0 rfl rfl rfl ?_
            refine v_iload_n 63 1 rfl rfl rfl ?_
            refine v_iload_n 64 2 rfl rfl rfl ?_
            refine v_iload_n 65 3 rfl rfl rfl ?_
            refine v_callV (st := []) [I_ x1, I_ x2, I_ x3] 66 rfl lv12_196_isOn_11 (al 53 rfl hn) (wk53 dy) (by decide) rfl (Nat.le_refl _) (Nat.le_refl _) ?_
            exact h
set_option maxHeartbeats 8000000 in
set_option maxRecDepth 4000 in
theorem bX12_isOn_115 {d n : Nat} {dy : Nat → Shp} {g : Hp} {P : Pst} {x1 : Int} {x2 : Int} {x3 : Int} {x4 : Int} {xs0 : Int} (hn : 100 ≤ n) (h : (i6 xs0) ∧ ((xs0 ≠ 0) → P (some (I_ 0)) n (W0 dy) g) ∧ ((xs0 = 0) → P (some (I_ 1)) n (W0 dy) g)) : V miX12_isOn (d + 1) 115 [(0, .ref 53), (1, I_ x1), (2, I_ x2), (3, I_ x3), (4, I_ x4)] [L_ xs0] n (W0 dy) g 0 0 P := by
  refine v_lconst (v := 0) 67 rfl (by decide) ?_
  have c1 := h.1
  have h := h.2
  refine v_lif_ne 68 rfl rfl (tgt := 124) rfl c1 (by decide) (fun q2 => ?_) (fun q2 => ?_)
  · have h := h.1 q2
    refine v_iconst 72 rfl ?_
    exact v_ret (v := some (I_ 0)) 73 rfl (Nat.zero_le _) (Nat.zero_le _) (Or.inl rfl) rfl h
  · have h := h.2 q2
    refine v_iconst 70 rfl ?_
    refine v_goto 71 rfl (tgt := 125) rfl ?_
    exact v_ret (v := some (I_ 1)) 73 rfl (Nat.zero_le _) (Nat.zero_le _) (Or.inr rfl) rfl h
theorem wX12_isOn {d n : Nat} {dy : Nat → Shp} {g : Hp} {P : Pst} {x1 : Int} {x2 : Int} {x3 : Int} (hn : 100 ≤ n) (h : (0 ≤ x1 ∧ x1 < 8) ∧ (0 ≤ x2 ∧ x2 < 8) ∧ (0 ≤ x3 ∧ x3 < 8) ∧ (((g 79 x3.toNat) < (min (g 79 x1.toNat) (g 79 x2.toNat))) → P (some (I_ 0)) n (W0 dy) g) ∧ (((min (g 79 x1.toNat) (g 79 x2.toNat)) ≤ (g 79 x3.toNat)) → (((max (g 79 x1.toNat) (g 79 x2.toNat)) < (g 79 x3.toNat)) → P (some (I_ 0)) n (W0 dy) g) ∧ (((g 79 x3.toNat) ≤ (max (g 79 x1.toNat) (g 79 x2.toNat))) → (((g 80 x3.toNat) < (min (g 80 x1.toNat) (g 80 x2.toNat))) → P (some (I_ 0)) n (W0 dy) g) ∧ (((min (g 80 x1.toNat) (g 80 x2.toNat)) ≤ (g 80 x3.toNat)) → (((max (g 80 x1.toNat) (g 80 x2.toNat)) < (g 80 x3.toNat)) → P (some (I_ 0)) n (W0 dy) g) ∧ (((g 80 x3.toNat) ≤ (max (g 80 x1.toNat) (g 80 x2.toNat))) → Runs miX12_turn d [.ref 53, I_ x1, I_ x2, I_ x3] n (W0 dy) g (fun v n' S' g' => V miX12_isOn (d + 1) 115 [(0, .ref 53), (1, I_ x1), (2, I_ x2), (3, I_ x3), (4, I_ 1)] (v.toList ++ []) n' S' g' 0 0 P)))))) : Runs miX12_isOn (d + 1) [.ref 53, I_ x1, I_ x2, I_ x3] n (W0 dy) g P := Runs.of rfl rfl deX12_isOn (Nat.le_of_ble_eq_true rfl) (bX12_isOn_0 hn h)
set_option maxHeartbeats 8000000 in
set_option maxRecDepth 4000 in
theorem bX12_sign_0 {d n : Nat} {dy : Nat → Shp} {g : Hp} {P : Pst} {x0 : Int} (hn : 100 ≤ n) (h : (i6 x0) ∧ ((0 ≤ x0) → ((x0 ≤ 0) → P (some (I_ 0)) n (W0 dy) g) ∧ ((0 < x0) → P (some (I_ 1)) n (W0 dy) g)) ∧ ((x0 < 0) → P (some (I_ ((-1)))) n (W0 dy) g)) : V miX12_sign d 0 [(0, L_ x0)] [] n (W0 dy) g 0 0 P := by
  refine v_lload_n 0 0 rfl rfl rfl ?_
  refine v_lconst (v := 0) 1 rfl (by decide) ?_
  have c1 := h.1
  have h := h.2
  refine v_lif_ge 2 rfl rfl (tgt := 10) rfl c1 (by decide) (fun q2 => ?_) (fun q2 => ?_)
  · have h := h.1 q2
    refine v_lload_n 6 0 rfl rfl rfl ?_
    refine v_lconst (v := 0) 7 rfl (by decide) ?_
    refine v_lif_le 8 rfl rfl (tgt := 20) rfl c1 (by decide) (fun q3 => ?_) (fun q3 => ?_)
    · have h := h.1 q3
      refine v_iconst 12 rfl ?_
      exact v_ret (v := some (I_ 0)) 13 rfl (Nat.zero_le _) (Nat.zero_le _) trivial rfl h
    · have h := h.2 q3
      refine v_iconst 10 rfl ?_
      refine v_goto 11 rfl (tgt := 21) rfl ?_
      exact v_ret (v := some (I_ 1)) 13 rfl (Nat.zero_le _) (Nat.zero_le _) trivial rfl h
  · have h := h.2 q2
    refine v_iconst 4 rfl ?_
    refine v_goto 5 rfl (tgt := 21) rfl ?_
    exact v_ret (v := some (I_ ((-1)))) 13 rfl (Nat.zero_le _) (Nat.zero_le _) trivial rfl h
theorem wX12_sign {d n : Nat} {dy : Nat → Shp} {g : Hp} {P : Pst} {x0 : Int} (hn : 100 ≤ n) (h : (i6 x0) ∧ ((0 ≤ x0) → ((x0 ≤ 0) → P (some (I_ 0)) n (W0 dy) g) ∧ ((0 < x0) → P (some (I_ 1)) n (W0 dy) g)) ∧ ((x0 < 0) → P (some (I_ ((-1)))) n (W0 dy) g)) : Runs miX12_sign d [L_ x0] n (W0 dy) g P := Runs.of rfl rfl deX12_sign (Nat.le_of_ble_eq_true rfl) (bX12_sign_0 hn h)
theorem lv12_200_touches_11 : LkV miX12_touches miX12_isOn 200 3 11 := ⟨⟨⟨tbG_in (List.mem_append_right _ (List.mem_of_getElem? (i := 1378) (by decide +kernel))) rfl, tbG_in (List.mem_append_right _ (List.mem_of_getElem? (i := 9) (by decide +kernel))) rfl, tbG_in (List.mem_append_right _ (List.mem_of_getElem? (i := 1375) (by decide +kernel))) rfl⟩, ⟨by decide +kernel, by decide +kernel, by decide +kernel⟩, by decide⟩, tbG_in (List.mem_append_right _ (List.mem_of_getElem? (i := 1377) (by decide +kernel))) rfl, RX12, TX12, 58, rfl, tbG_in (List.mem_append_left _ (List.mem_of_getElem? (i := 53) (by decide +kernel))) rfl⟩
theorem lv12_196_touches_11 : LkV miX12_touches miX12_turn 196 3 11 := ⟨⟨⟨tbG_in (List.mem_append_right _ (List.mem_of_getElem? (i := 1384) (by decide +kernel))) rfl, tbG_in (List.mem_append_right _ (List.mem_of_getElem? (i := 9) (by decide +kernel))) rfl, tbG_in (List.mem_append_right _ (List.mem_of_getElem? (i := 1381) (by decide +kernel))) rfl⟩, ⟨by decide +kernel, by decide +kernel, by decide +kernel⟩, by decide⟩, tbG_in (List.mem_append_right _ (List.mem_of_getElem? (i := 1383) (by decide +kernel))) rfl, RX12, TX12, 58, rfl, tbG_in (List.mem_append_left _ (List.mem_of_getElem? (i := 54) (by decide +kernel))) rfl⟩
theorem ls12_204_touches : LkS miX12_touches miX12_sign 204 1 := ⟨⟨⟨tbG_in (List.mem_append_right _ (List.mem_of_getElem? (i := 1391) (by decide +kernel))) rfl, tbG_in (List.mem_append_right _ (List.mem_of_getElem? (i := 9) (by decide +kernel))) rfl, tbG_in (List.mem_append_right _ (List.mem_of_getElem? (i := 1389) (by decide +kernel))) rfl⟩, ⟨by decide +kernel, by decide +kernel, by decide +kernel⟩, by decide⟩, tbG_in (List.mem_append_right _ (List.mem_of_getElem? (i := 1390) (by decide +kernel))) rfl⟩
set_option maxHeartbeats 8000000 in
set_option maxRecDepth 4000 in
theorem bX12_touches_0 {d n : Nat} {dy : Nat → Shp} {g : Hp} {P : Pst} {x1 : Int} {x2 : Int} {x3 : Int} {x4 : Int} (hn : 100 ≤ n) (h : Runs miX12_isOn d [.ref 53, I_ x1, I_ x2, I_ x3] n (W0 dy) g (fun v n' S' g' => V miX12_touches (d + 1) 7 [(0, .ref 53), (1, I_ x1), (2, I_ x2), (3, I_ x3), (4, I_ x4)] (v.toList ++ []) n' S' g' 0 0 P)) : V miX12_touches (d + 1) 0 [(0, .ref 53), (1, I_ x1), (2, I_ x2), (3, I_ x3), (4, I_ x4)] [] n (W0 dy) g 0 0 P := by
  refine v_aload_n 0 0 rfl rfl rfl ?_
  refine v_iload_n 1 1 rfl rfl rfl ?_
  refine v_iload_n 2 2 rfl rfl rfl ?_
  refine v_iload_n 3 3 rfl rfl rfl ?_
  refine v_callV (st := []) [I_ x1, I_ x2, I_ x3] 4 rfl lv12_200_touches_11 (al 53 rfl hn) (wk53 dy) (by decide) rfl (Nat.le_refl _) (Nat.le_refl _) ?_
  exact h
set_option maxHeartbeats 8000000 in
set_option maxRecDepth 4000 in
theorem bX12_touches_7 {d n : Nat} {dy : Nat → Shp} {g : Hp} {P : Pst} {x1 : Int} {x2 : Int} {x3 : Int} {x4 : Int} {xs0 : Int} (hn : 100 ≤ n) (h : (i3 xs0) ∧ ((xs0 ≠ 0) → P (some (I_ 1)) n (W0 dy) g) ∧ ((xs0 = 0) → Runs miX12_isOn d [.ref 53, I_ x1, I_ x2, I_ x4] n (W0 dy) g (fun v n' S' g' => V miX12_touches (d + 1) 18 [(0, .ref 53), (1, I_ x1), (2, I_ x2), (3, I_ x3), (4, I_ x4)] (v.toList ++ []) n' S' g' 0 0 P))) : V miX12_touches (d + 1) 7 [(0, .ref 53), (1, I_ x1), (2, I_ x2), (3, I_ x3), (4, I_ x4)] [I_ xs0] n (W0 dy) g 0 0 P := by
  have c1 := h.1
  have h := h.2
  refine v_if_ne 5 rfl (tgt := 43) rfl c1 (fun q2 => ?_) (fun q2 => ?_)
  · have h := h.1 q2
    refine v_iconst 24 rfl ?_
    exact v_ret (v := some (I_ 1)) 25 rfl (Nat.zero_le _) (Nat.zero_le _) (Or.inr rfl) rfl h
  · have h := h.2 q2
    refine v_aload_n 6 0 rfl rfl rfl ?_
    refine v_iload_n 7 1 rfl rfl rfl ?_
    refine v_iload_n 8 2 rfl rfl rfl ?_
    refine v_iload 9 4 rfl rfl ?_
    refine v_callV (st := []) [I_ x1, I_ x2, I_ x4] 10 rfl lv12_200_touches_11 (al 53 rfl hn) (wk53 dy) (by decide) rfl (Nat.le_refl _) (Nat.le_refl _) ?_
    exact h
set_option maxHeartbeats 8000000 in
set_option maxRecDepth 4000 in
theorem bX12_touches_18 {d n : Nat} {dy : Nat → Shp} {g : Hp} {P : Pst} {x1 : Int} {x2 : Int} {x3 : Int} {x4 : Int} {xs0 : Int} (hn : 100 ≤ n) (h : (i3 xs0) ∧ ((xs0 ≠ 0) → P (some (I_ 1)) n (W0 dy) g) ∧ ((xs0 = 0) → Runs miX12_isOn d [.ref 53, I_ x3, I_ x4, I_ x1] n (W0 dy) g (fun v n' S' g' => V miX12_touches (d + 1) 29 [(0, .ref 53), (1, I_ x1), (2, I_ x2), (3, I_ x3), (4, I_ x4)] (v.toList ++ []) n' S' g' 0 0 P))) : V miX12_touches (d + 1) 18 [(0, .ref 53), (1, I_ x1), (2, I_ x2), (3, I_ x3), (4, I_ x4)] [I_ xs0] n (W0 dy) g 0 0 P := by
  have c1 := h.1
  have h := h.2
  refine v_if_ne 11 rfl (tgt := 43) rfl c1 (fun q2 => ?_) (fun q2 => ?_)
  · have h := h.1 q2
    refine v_iconst 24 rfl ?_
    exact v_ret (v := some (I_ 1)) 25 rfl (Nat.zero_le _) (Nat.zero_le _) (Or.inr rfl) rfl h
  · have h := h.2 q2
    refine v_aload_n 12 0 rfl rfl rfl ?_
    refine v_iload_n 13 3 rfl rfl rfl ?_
    refine v_iload 14 4 rfl rfl ?_
    refine v_iload_n 15 1 rfl rfl rfl ?_
    refine v_callV (st := []) [I_ x3, I_ x4, I_ x1] 16 rfl lv12_200_touches_11 (al 53 rfl hn) (wk53 dy) (by decide) rfl (Nat.le_refl _) (Nat.le_refl _) ?_
    exact h
set_option maxHeartbeats 8000000 in
set_option maxRecDepth 4000 in
theorem bX12_touches_29 {d n : Nat} {dy : Nat → Shp} {g : Hp} {P : Pst} {x1 : Int} {x2 : Int} {x3 : Int} {x4 : Int} {xs0 : Int} (hn : 100 ≤ n) (h : (i3 xs0) ∧ ((xs0 ≠ 0) → P (some (I_ 1)) n (W0 dy) g) ∧ ((xs0 = 0) → Runs miX12_isOn d [.ref 53, I_ x3, I_ x4, I_ x2] n (W0 dy) g (fun v n' S' g' => V miX12_touches (d + 1) 40 [(0, .ref 53), (1, I_ x1), (2, I_ x2), (3, I_ x3), (4, I_ x4)] (v.toList ++ []) n' S' g' 0 0 P))) : V miX12_touches (d + 1) 29 [(0, .ref 53), (1, I_ x1), (2, I_ x2), (3, I_ x3), (4, I_ x4)] [I_ xs0] n (W0 dy) g 0 0 P := by
  have c1 := h.1
  have h := h.2
  refine v_if_ne 17 rfl (tgt := 43) rfl c1 (fun q2 => ?_) (fun q2 => ?_)
  · have h := h.1 q2
    refine v_iconst 24 rfl ?_
    exact v_ret (v := some (I_ 1)) 25 rfl (Nat.zero_le _) (Nat.zero_le _) (Or.inr rfl) rfl h
  · have h := h.2 q2
    refine v_aload_n 18 0 rfl rfl rfl ?_
    refine v_iload_n 19 3 rfl rfl rfl ?_
    refine v_iload 20 4 rfl rfl ?_
    refine v_iload_n 21 2 rfl rfl rfl ?_
    refine v_callV (st := []) [I_ x3, I_ x4, I_ x2] 22 rfl lv12_200_touches_11 (al 53 rfl hn) (wk53 dy) (by decide) rfl (Nat.le_refl _) (Nat.le_refl _) ?_
    exact h
set_option maxHeartbeats 8000000 in
set_option maxRecDepth 4000 in
theorem bX12_touches_40 {d n : Nat} {dy : Nat → Shp} {g : Hp} {P : Pst} {x1 : Int} {x2 : Int} {x3 : Int} {x4 : Int} {xs0 : Int} (hn : 100 ≤ n) (h : (i3 xs0) ∧ ((xs0 = 0) → Runs miX12_turn d [.ref 53, I_ x1, I_ x2, I_ x3] n (W0 dy) g (fun v n' S' g' => V miX12_touches (d + 1) 52 [(0, .ref 53), (1, I_ x1), (2, I_ x2), (3, I_ x3), (4, I_ x4)] (v.toList ++ []) n' S' g' 0 0 P)) ∧ ((xs0 ≠ 0) → P (some (I_ 1)) n (W0 dy) g)) : V miX12_touches (d + 1) 40 [(0, .ref 53), (1, I_ x1), (2, I_ x2), (3, I_ x3), (4, I_ x4)] [I_ xs0] n (W0 dy) g 0 0 P := by
  have c1 := h.1
  have h := h.2
  refine v_if_eq 23 rfl (tgt := 45) rfl c1 (fun q2 => ?_) (fun q2 => ?_)
  · have h := h.1 q2
    refine v_aload_n 26 0 rfl rfl rfl ?_
    refine v_iload_n 27 1 rfl rfl rfl ?_
    refine v_iload_n 28 2 rfl rfl rfl ?_
    refine v_iload_n 29 3 rfl rfl rfl ?_
    refine v_callV (st := []) [I_ x1, I_ x2, I_ x3] 30 rfl lv12_196_touches_11 (al 53 rfl hn) (wk53 dy) (by decide) rfl (Nat.le_refl _) (Nat.le_refl _) ?_
    exact h
  · have h := h.2 q2
    refine v_iconst 24 rfl ?_
    exact v_ret (v := some (I_ 1)) 25 rfl (Nat.zero_le _) (Nat.zero_le _) (Or.inr rfl) rfl h
set_option maxHeartbeats 8000000 in
set_option maxRecDepth 4000 in
theorem bX12_touches_52 {d n : Nat} {dy : Nat → Shp} {g : Hp} {P : Pst} {x1 : Int} {x2 : Int} {x3 : Int} {x4 : Int} {xs0 : Int} (hn : 100 ≤ n) (h : Runs miX12_sign d [L_ xs0] n (W0 dy) g (fun v n' S' g' => V miX12_touches (d + 1) 55 [(0, .ref 53), (1, I_ x1), (2, I_ x2), (3, I_ x3), (4, I_ x4)] (v.toList ++ []) n' S' g' 0 0 P)) : V miX12_touches (d + 1) 52 [(0, .ref 53), (1, I_ x1), (2, I_ x2), (3, I_ x3), (4, I_ x4)] [L_ xs0] n (W0 dy) g 0 0 P := by
  refine v_callS (st := []) [L_ xs0] 31 rfl ls12_204_touches rfl (Nat.lt_of_lt_of_le (by decide) hn) (Nat.le_refl _) (Nat.le_refl _) ?_
  exact h
set_option maxHeartbeats 8000000 in
set_option maxRecDepth 4000 in
theorem bX12_touches_55 {d n : Nat} {dy : Nat → Shp} {g : Hp} {P : Pst} {x1 : Int} {x2 : Int} {x3 : Int} {x4 : Int} {xs0 : Int} (hn : 100 ≤ n) (h : Runs miX12_turn d [.ref 53, I_ x1, I_ x2, I_ x4] n (W0 dy) g (fun v n' S' g' => V miX12_touches (d + 1) 63 [(0, .ref 53), (1, I_ x1), (2, I_ x2), (3, I_ x3), (4, I_ x4)] (v.toList ++ [I_ xs0]) n' S' g' 0 0 P)) : V miX12_touches (d + 1) 55 [(0, .ref 53), (1, I_ x1), (2, I_ x2), (3, I_ x3), (4, I_ x4)] [I_ xs0] n (W0 dy) g 0 0 P := by
  refine v_aload_n 32 0 rfl rfl rfl ?_
  refine v_iload_n 33 1 rfl rfl rfl ?_
  refine v_iload_n 34 2 rfl rfl rfl ?_
  refine v_iload 35 4 rfl rfl ?_
  refine v_callV (st := [I_ xs0]) [I_ x1, I_ x2, I_ x4] 36 rfl lv12_196_touches_11 (al 53 rfl hn) (wk53 dy) (by decide) rfl (Nat.le_refl _) (Nat.le_refl _) ?_
  exact h
set_option maxHeartbeats 8000000 in
set_option maxRecDepth 4000 in
theorem bX12_touches_63 {d n : Nat} {dy : Nat → Shp} {g : Hp} {P : Pst} {x1 : Int} {x2 : Int} {x3 : Int} {x4 : Int} {xs0 : Int} {xs1 : Int} (hn : 100 ≤ n) (h : Runs miX12_sign d [L_ xs1] n (W0 dy) g (fun v n' S' g' => V miX12_touches (d + 1) 66 [(0, .ref 53), (1, I_ x1), (2, I_ x2), (3, I_ x3), (4, I_ x4)] (v.toList ++ [I_ xs0]) n' S' g' 0 0 P)) : V miX12_touches (d + 1) 63 [(0, .ref 53), (1, I_ x1), (2, I_ x2), (3, I_ x3), (4, I_ x4)] [L_ xs1, I_ xs0] n (W0 dy) g 0 0 P := by
  refine v_callS (st := [I_ xs0]) [L_ xs1] 37 rfl ls12_204_touches rfl (Nat.lt_of_lt_of_le (by decide) hn) (Nat.le_refl _) (Nat.le_refl _) ?_
  exact h
set_option maxHeartbeats 8000000 in
set_option maxRecDepth 4000 in
theorem bX12_touches_66 {d n : Nat} {dy : Nat → Shp} {g : Hp} {P : Pst} {x1 : Int} {x2 : Int} {x3 : Int} {x4 : Int} {xs0 : Int} {xs1 : Int} (hn : 100 ≤ n) (h : (i3 (xs0 * xs1)) ∧ ((0 ≤ (xs0 * xs1)) → P (some (I_ 0)) n (W0 dy) g) ∧ (((xs0 * xs1) < 0) → Runs miX12_turn d [.ref 53, I_ x3, I_ x4, I_ x1] n (W0 dy) g (fun v n' S' g' => V miX12_touches (d + 1) 78 [(0, .ref 53), (1, I_ x1), (2, I_ x2), (3, I_ x3), (4, I_ x4)] (v.toList ++ []) n' S' g' 0 0 P))) : V miX12_touches (d + 1) 66 [(0, .ref 53), (1, I_ x1), (2, I_ x2), (3, I_ x3), (4, I_ x4)] [I_ xs1, I_ xs0] n (W0 dy) g 0 0 P := by
  refine v_imul 38 rfl ?_
  have c1 := h.1
  have h := h.2
  refine v_if_ge 39 rfl (tgt := 100) rfl c1 (fun q2 => ?_) (fun q2 => ?_)
  · have h := h.1 q2
    refine v_iconst 56 rfl ?_
    exact v_ret (v := some (I_ 0)) 57 rfl (Nat.zero_le _) (Nat.zero_le _) (Or.inl rfl) rfl h
  · have h := h.2 q2
    refine v_aload_n 40 0 rfl rfl rfl ?_
    refine v_iload_n 41 3 rfl rfl rfl ?_
    refine v_iload 42 4 rfl rfl ?_
    refine v_iload_n 43 1 rfl rfl rfl ?_
    refine v_callV (st := []) [I_ x3, I_ x4, I_ x1] 44 rfl lv12_196_touches_11 (al 53 rfl hn) (wk53 dy) (by decide) rfl (Nat.le_refl _) (Nat.le_refl _) ?_
    exact h
set_option maxHeartbeats 8000000 in
set_option maxRecDepth 4000 in
theorem bX12_touches_78 {d n : Nat} {dy : Nat → Shp} {g : Hp} {P : Pst} {x1 : Int} {x2 : Int} {x3 : Int} {x4 : Int} {xs0 : Int} (hn : 100 ≤ n) (h : Runs miX12_sign d [L_ xs0] n (W0 dy) g (fun v n' S' g' => V miX12_touches (d + 1) 81 [(0, .ref 53), (1, I_ x1), (2, I_ x2), (3, I_ x3), (4, I_ x4)] (v.toList ++ []) n' S' g' 0 0 P)) : V miX12_touches (d + 1) 78 [(0, .ref 53), (1, I_ x1), (2, I_ x2), (3, I_ x3), (4, I_ x4)] [L_ xs0] n (W0 dy) g 0 0 P := by
  refine v_callS (st := []) [L_ xs0] 45 rfl ls12_204_touches rfl (Nat.lt_of_lt_of_le (by decide) hn) (Nat.le_refl _) (Nat.le_refl _) ?_
  exact h
set_option maxHeartbeats 8000000 in
set_option maxRecDepth 4000 in
theorem bX12_touches_81 {d n : Nat} {dy : Nat → Shp} {g : Hp} {P : Pst} {x1 : Int} {x2 : Int} {x3 : Int} {x4 : Int} {xs0 : Int} (hn : 100 ≤ n) (h : Runs miX12_turn d [.ref 53, I_ x3, I_ x4, I_ x2] n (W0 dy) g (fun v n' S' g' => V miX12_touches (d + 1) 89 [(0, .ref 53), (1, I_ x1), (2, I_ x2), (3, I_ x3), (4, I_ x4)] (v.toList ++ [I_ xs0]) n' S' g' 0 0 P)) : V miX12_touches (d + 1) 81 [(0, .ref 53), (1, I_ x1), (2, I_ x2), (3, I_ x3), (4, I_ x4)] [I_ xs0] n (W0 dy) g 0 0 P := by
  refine v_aload_n 46 0 rfl rfl rfl ?_
  refine v_iload_n 47 3 rfl rfl rfl ?_
  refine v_iload 48 4 rfl rfl ?_
  refine v_iload_n 49 2 rfl rfl rfl ?_
  refine v_callV (st := [I_ xs0]) [I_ x3, I_ x4, I_ x2] 50 rfl lv12_196_touches_11 (al 53 rfl hn) (wk53 dy) (by decide) rfl (Nat.le_refl _) (Nat.le_refl _) ?_
  exact h
set_option maxHeartbeats 8000000 in
set_option maxRecDepth 4000 in
theorem bX12_touches_89 {d n : Nat} {dy : Nat → Shp} {g : Hp} {P : Pst} {x1 : Int} {x2 : Int} {x3 : Int} {x4 : Int} {xs0 : Int} {xs1 : Int} (hn : 100 ≤ n) (h : Runs miX12_sign d [L_ xs1] n (W0 dy) g (fun v n' S' g' => V miX12_touches (d + 1) 92 [(0, .ref 53), (1, I_ x1), (2, I_ x2), (3, I_ x3), (4, I_ x4)] (v.toList ++ [I_ xs0]) n' S' g' 0 0 P)) : V miX12_touches (d + 1) 89 [(0, .ref 53), (1, I_ x1), (2, I_ x2), (3, I_ x3), (4, I_ x4)] [L_ xs1, I_ xs0] n (W0 dy) g 0 0 P := by
  refine v_callS (st := [I_ xs0]) [L_ xs1] 51 rfl ls12_204_touches rfl (Nat.lt_of_lt_of_le (by decide) hn) (Nat.le_refl _) (Nat.le_refl _) ?_
  exact h
set_option maxHeartbeats 8000000 in
set_option maxRecDepth 4000 in
theorem bX12_touches_92 {d n : Nat} {dy : Nat → Shp} {g : Hp} {P : Pst} {x1 : Int} {x2 : Int} {x3 : Int} {x4 : Int} {xs0 : Int} {xs1 : Int} (hn : 100 ≤ n) (h : (i3 (xs0 * xs1)) ∧ ((0 ≤ (xs0 * xs1)) → P (some (I_ 0)) n (W0 dy) g) ∧ (((xs0 * xs1) < 0) → P (some (I_ 1)) n (W0 dy) g)) : V miX12_touches (d + 1) 92 [(0, .ref 53), (1, I_ x1), (2, I_ x2), (3, I_ x3), (4, I_ x4)] [I_ xs1, I_ xs0] n (W0 dy) g 0 0 P := by
  refine v_imul 52 rfl ?_
  have c1 := h.1
  have h := h.2
  refine v_if_ge 53 rfl (tgt := 100) rfl c1 (fun q2 => ?_) (fun q2 => ?_)
  · have h := h.1 q2
    refine v_iconst 56 rfl ?_
    exact v_ret (v := some (I_ 0)) 57 rfl (Nat.zero_le _) (Nat.zero_le _) (Or.inl rfl) rfl h
  · have h := h.2 q2
    refine v_iconst 54 rfl ?_
    refine v_goto 55 rfl (tgt := 101) rfl ?_
    exact v_ret (v := some (I_ 1)) 57 rfl (Nat.zero_le _) (Nat.zero_le _) (Or.inr rfl) rfl h
theorem wX12_touches {d n : Nat} {dy : Nat → Shp} {g : Hp} {P : Pst} {x1 : Int} {x2 : Int} {x3 : Int} {x4 : Int} (hn : 100 ≤ n) (h : Runs miX12_isOn d [.ref 53, I_ x1, I_ x2, I_ x3] n (W0 dy) g (fun v n' S' g' => V miX12_touches (d + 1) 7 [(0, .ref 53), (1, I_ x1), (2, I_ x2), (3, I_ x3), (4, I_ x4)] (v.toList ++ []) n' S' g' 0 0 P)) : Runs miX12_touches (d + 1) [.ref 53, I_ x1, I_ x2, I_ x3, I_ x4] n (W0 dy) g P := Runs.of rfl rfl deX12_touches (Nat.le_of_ble_eq_true rfl) (bX12_touches_0 hn h)
theorem lv12_207_isRing_11 : LkV miX12_isRing miX12_touches 207 4 11 := ⟨⟨⟨tbG_in (List.mem_append_right _ (List.mem_of_getElem? (i := 1388) (by decide +kernel))) rfl, tbG_in (List.mem_append_right _ (List.mem_of_getElem? (i := 9) (by decide +kernel))) rfl, tbG_in (List.mem_append_right _ (List.mem_of_getElem? (i := 1385) (by decide +kernel))) rfl⟩, ⟨by decide +kernel, by decide +kernel, by decide +kernel⟩, by decide⟩, tbG_in (List.mem_append_right _ (List.mem_of_getElem? (i := 1387) (by decide +kernel))) rfl, RX12, TX12, 58, rfl, tbG_in (List.mem_append_left _ (List.mem_of_getElem? (i := 55) (by decide +kernel))) rfl⟩
theorem lv12_200_isRing_11 : LkV miX12_isRing miX12_isOn 200 3 11 := ⟨⟨⟨tbG_in (List.mem_append_right _ (List.mem_of_getElem? (i := 1378) (by decide +kernel))) rfl, tbG_in (List.mem_append_right _ (List.mem_of_getElem? (i := 9) (by decide +kernel))) rfl, tbG_in (List.mem_append_right _ (List.mem_of_getElem? (i := 1375) (by decide +kernel))) rfl⟩, ⟨by decide +kernel, by decide +kernel, by decide +kernel⟩, by decide⟩, tbG_in (List.mem_append_right _ (List.mem_of_getElem? (i := 1377) (by decide +kernel))) rfl, RX12, TX12, 58, rfl, tbG_in (List.mem_append_left _ (List.mem_of_getElem? (i := 53) (by decide +kernel))) rfl⟩
set_option maxHeartbeats 8000000 in
set_option maxRecDepth 4000 in
theorem bX12_isRing_0 {d n : Nat} {dy : Nat → Shp} {g : Hp} {P : Pst} {x1 : Int} (hn : 100 ≤ n) (h : V miX12_isRing (d + 1) 2 [(0, .ref 53), (1, I_ x1), (2, I_ 0)] [] n (W0 dy) g 0 0 P) : V miX12_isRing (d + 1) 0 [(0, .ref 53), (1, I_ x1)] [] n (W0 dy) g 0 0 P := by
  refine v_iconst 0 rfl ?_
  refine v_istore_n 1 [1, 2, 0] rfl rfl (by decide) rfl ?_
  exact h
set_option maxHeartbeats 8000000 in
set_option maxRecDepth 4000 in
theorem bX12_isRing_2 {d n : Nat} {dy : Nat → Shp} {g : Hp} {P : Pst} {x1 : Int} {x2 : Int} (hn : 100 ≤ n) (h : (i3 x2) ∧ (i3 x1) ∧ ((x1 ≤ x2) → P (some (I_ 1)) n (W0 dy) g) ∧ ((x2 < x1) → V miX12_isRing (d + 1) 11 [(0, .ref 53), (1, I_ x1), (2, I_ x2), (3, I_ (x2 + 1))] [] n (W0 dy) g 0 0 P)) : V miX12_isRing (d + 1) 2 [(0, .ref 53), (1, I_ x1), (2, I_ x2)] [] n (W0 dy) g 0 0 P := by
  refine v_iload_n 2 2 rfl rfl rfl ?_
  refine v_iload_n 3 1 rfl rfl rfl ?_
  have c1 := h.1
  have h := h.2
  have c2 := h.1
  have h := h.2
  refine v_icmp_ge 4 rfl (tgt := 139) rfl c1 c2 (fun q3 => ?_) (fun q3 => ?_)
  · have h := h.1 q3
    refine v_iconst 79 rfl ?_
    exact v_ret (v := some (I_ 1)) 80 rfl (Nat.zero_le _) (Nat.zero_le _) (Or.inr rfl) rfl h
  · have h := h.2 q3
    refine v_iload_n 5 2 rfl rfl rfl ?_
    refine v_iconst 6 rfl ?_
    refine v_iadd 7 rfl ?_
    refine v_istore_n 8 [1, 2, 3, 0] rfl rfl (by decide) rfl ?_
    exact h
set_option maxHeartbeats 8000000 in
set_option maxRecDepth 4000 in
theorem bX12_isRing_11 {d n : Nat} {dy : Nat → Shp} {g : Hp} {P : Pst} {x1 : Int} {x2 : Int} {x3 : Int} (hn : 100 ≤ n) (h : (i3 x3) ∧ (i3 x1) ∧ ((x1 ≤ x3) → V miX12_isRing (d + 1) 2 [(0, .ref 53), (1, I_ x1), (2, I_ (x2 + 1))] [] n (W0 dy) g 0 0 P) ∧ ((x3 < x1) → (i3 (x2 + 1)) ∧ (x1 ≠ 0) ∧ (i3 (x3 + 1)) ∧ (x1 ≠ 0) ∧ (i3 ((x2 + 1).tmod x1)) ∧ ((((x2 + 1).tmod x1) ≠ x3) → (i3 ((x3 + 1).tmod x1)) ∧ (i3 x2) ∧ ((((x3 + 1).tmod x1) ≠ x2) → Runs miX12_touches d [.ref 53, I_ x2, I_ ((x2 + 1).tmod x1), I_ x3, I_ ((x3 + 1).tmod x1)] n (W0 dy) g (fun v n' S' g' => V miX12_isRing (d + 1) 118 [(0, .ref 53), (1, I_ x1), (2, I_ x2), (3, I_ x3), (4, I_ ((x2 + 1).tmod x1)), (5, I_ ((x3 + 1).tmod x1))] (v.toList ++ []) n' S' g' 0 0 P)) ∧ ((((x3 + 1).tmod x1) = x2) → Runs miX12_isOn d [.ref 53, I_ x3, I_ ((x3 + 1).tmod x1), I_ ((x2 + 1).tmod x1)] n (W0 dy) g (fun v n' S' g' => V miX12_isRing (d + 1) 84 [(0, .ref 53), (1, I_ x1), (2, I_ x2), (3, I_ x3), (4, I_ ((x2 + 1).tmod x1)), (5, I_ ((x3 + 1).tmod x1))] (v.toList ++ []) n' S' g' 0 0 P))) ∧ ((((x2 + 1).tmod x1) = x3) → Runs miX12_isOn d [.ref 53, I_ x2, I_ ((x2 + 1).tmod x1), I_ ((x3 + 1).tmod x1)] n (W0 dy) g (fun v n' S' g' => V miX12_isRing (d + 1) 45 [(0, .ref 53), (1, I_ x1), (2, I_ x2), (3, I_ x3), (4, I_ ((x2 + 1).tmod x1)), (5, I_ ((x3 + 1).tmod x1))] (v.toList ++ []) n' S' g' 0 0 P)))) : V miX12_isRing (d + 1) 11 [(0, .ref 53), (1, I_ x1), (2, I_ x2), (3, I_ x3)] [] n (W0 dy) g 0 0 P := by
  refine v_iload_n 9 3 rfl rfl rfl ?_
  refine v_iload_n 10 1 rfl rfl rfl ?_
  have c1 := h.1
  have h := h.2
  have c2 := h.1
  have h := h.2
  refine v_icmp_ge 11 rfl (tgt := 133) rfl c1 c2 (fun q3 => ?_) (fun q3 => ?_)
  · have h := h.1 q3
    refine v_iinc 77 2 [1, 2, 0, 3] rfl rfl (by decide) rfl ?_
    refine v_goto 78 rfl (tgt := 2) rfl ?_
    refine v_loc [0, 1, 2] rfl ?_
    exact h
  · have h := h.2 q3
    refine v_iload_n 12 2 rfl rfl rfl ?_
    refine v_iconst 13 rfl ?_
    refine v_iadd 14 rfl ?_
    refine v_iload_n 15 1 rfl rfl rfl ?_
    have c4 := h.1
    have h := h.2
    have c5 := h.1
    have h := h.2
    refine v_irem 16 rfl c4 c2 c5 ?_
    refine v_istore 17 [1, 2, 3, 4, 0] rfl (by decide) rfl ?_
    refine v_iload_n 18 3 rfl rfl rfl ?_
    refine v_iconst 19 rfl ?_
    refine v_iadd 20 rfl ?_
    refine v_iload_n 21 1 rfl rfl rfl ?_
    have c6 := h.1
    have h := h.2
    have c7 := h.1
    have h := h.2
    refine v_irem 22 rfl c6 c2 c7 ?_
    refine v_istore 23 [1, 2, 3, 4, 5, 0] rfl (by decide) rfl ?_
    refine v_iload 24 4 rfl rfl ?_
    refine v_iload_n 25 3 rfl rfl rfl ?_
    have c8 := h.1
    have h := h.2
    refine v_icmp_ne 26 rfl (tgt := 69) rfl c8 c1 (fun q9 => ?_) (fun q9 => ?_)
    · have h := h.1 q9
      refine v_iload 44 5 rfl rfl ?_
      refine v_iload_n 45 2 rfl rfl rfl ?_
      have c10 := h.1
      have h := h.2
      have c11 := h.1
      have h := h.2
      refine v_icmp_ne 46 rfl (tgt := 108) rfl c10 c11 (fun q12 => ?_) (fun q12 => ?_)
      · have h := h.1 q12
        refine v_aload_n 64 0 rfl rfl rfl ?_
        refine v_iload_n 65 2 rfl rfl rfl ?_
        refine v_iload 66 4 rfl rfl ?_
        refine v_iload_n 67 3 rfl rfl rfl ?_
        refine v_iload 68 5 rfl rfl ?_
        refine v_callV (st := []) [I_ x2, I_ ((x2 + 1).tmod x1), I_ x3, I_ ((x3 + 1).tmod x1)] 69 rfl lv12_207_isRing_11 (al 53 rfl hn) (wk53 dy) (by decide) rfl (Nat.le_refl _) (Nat.le_refl _) ?_
        exact h
      · have h := h.2 q12
        refine v_aload_n 47 0 rfl rfl rfl ?_
        refine v_iload_n 48 3 rfl rfl rfl ?_
        refine v_iload 49 5 rfl rfl ?_
        refine v_iload 50 4 rfl rfl ?_
        refine v_callV (st := []) [I_ x3, I_ ((x3 + 1).tmod x1), I_ ((x2 + 1).tmod x1)] 51 rfl lv12_200_isRing_11 (al 53 rfl hn) (wk53 dy) (by decide) rfl (Nat.le_refl _) (Nat.le_refl _) ?_
        exact h
    · have h := h.2 q9
      refine v_aload_n 27 0 rfl rfl rfl ?_
      refine v_iload_n 28 2 rfl rfl rfl ?_
      refine v_iload 29 4 rfl rfl ?_
      refine v_iload 30 5 rfl rfl ?_
      refine v_callV (st := []) [I_ x2, I_ ((x2 + 1).tmod x1), I_ ((x3 + 1).tmod x1)] 31 rfl lv12_200_isRing_11 (al 53 rfl hn) (wk53 dy) (by decide) rfl (Nat.le_refl _) (Nat.le_refl _) ?_
      exact h
set_option maxHeartbeats 8000000 in
set_option maxRecDepth 4000 in
theorem bX12_isRing_45 {d n : Nat} {dy : Nat → Shp} {g : Hp} {P : Pst} {x1 : Int} {x2 : Int} {x3 : Int} {x4 : Int} {x5 : Int} {xs0 : Int} (hn : 100 ≤ n) (h : (i3 xs0) ∧ ((xs0 ≠ 0) → P (some (I_ 0)) n (W0 dy) g) ∧ ((xs0 = 0) → Runs miX12_isOn d [.ref 53, I_ x3, I_ x5, I_ x2] n (W0 dy) g (fun v n' S' g' => V miX12_isRing (d + 1) 56 [(0, .ref 53), (1, I_ x1), (2, I_ x2), (3, I_ x3), (4, I_ x4), (5, I_ x5)] (v.toList ++ []) n' S' g' 0 0 P))) : V miX12_isRing (d + 1) 45 [(0, .ref 53), (1, I_ x1), (2, I_ x2), (3, I_ x3), (4, I_ x4), (5, I_ x5)] [I_ xs0] n (W0 dy) g 0 0 P := by
  have c1 := h.1
  have h := h.2
  refine v_if_ne 32 rfl (tgt := 59) rfl c1 (fun q2 => ?_) (fun q2 => ?_)
  · have h := h.1 q2
    refine v_iconst 39 rfl ?_
    refine v_goto 40 rfl (tgt := 64) rfl ?_
    refine v_istore 42 [1, 2, 3, 4, 5, 6, 0] rfl (by decide) rfl ?_
    refine v_goto 43 rfl (tgt := 120) rfl ?_
    refine v_iload 71 6 rfl rfl ?_
    refine v_if_eq 72 rfl (tgt := 127) rfl (by decide) (fun q3 => ?_) (fun q3 => ?_)
    · exact absurd q3 (by decide)
    · refine v_iconst 73 rfl ?_
      exact v_ret (v := some (I_ 0)) 74 rfl (Nat.zero_le _) (Nat.zero_le _) (Or.inl rfl) rfl h
  · have h := h.2 q2
    refine v_aload_n 33 0 rfl rfl rfl ?_
    refine v_iload_n 34 3 rfl rfl rfl ?_
    refine v_iload 35 5 rfl rfl ?_
    refine v_iload_n 36 2 rfl rfl rfl ?_
    refine v_callV (st := []) [I_ x3, I_ x5, I_ x2] 37 rfl lv12_200_isRing_11 (al 53 rfl hn) (wk53 dy) (by decide) rfl (Nat.le_refl _) (Nat.le_refl _) ?_
    exact h
set_option maxHeartbeats 8000000 in
set_option maxRecDepth 4000 in
theorem bX12_isRing_56 {d n : Nat} {dy : Nat → Shp} {g : Hp} {P : Pst} {x1 : Int} {x2 : Int} {x3 : Int} {x4 : Int} {x5 : Int} {xs0 : Int} (hn : 100 ≤ n) (h : (i3 xs0) ∧ ((xs0 = 0) → V miX12_isRing (d + 1) 11 [(0, .ref 53), (1, I_ x1), (2, I_ x2), (3, I_ (x3 + 1))] [] n (W0 dy) g 0 0 P) ∧ ((xs0 ≠ 0) → P (some (I_ 0)) n (W0 dy) g)) : V miX12_isRing (d + 1) 56 [(0, .ref 53), (1, I_ x1), (2, I_ x2), (3, I_ x3), (4, I_ x4), (5, I_ x5)] [I_ xs0] n (W0 dy) g 0 0 P := by
  have c1 := h.1
  have h := h.2
  refine v_if_eq 38 rfl (tgt := 63) rfl c1 (fun q2 => ?_) (fun q2 => ?_)
  · have h := h.1 q2
    refine v_iconst 41 rfl ?_
    refine v_istore 42 [1, 2, 3, 4, 5, 6, 0] rfl (by decide) rfl ?_
    refine v_goto 43 rfl (tgt := 120) rfl ?_
    refine v_iload 71 6 rfl rfl ?_
    refine v_if_eq 72 rfl (tgt := 127) rfl (by decide) (fun q3 => ?_) (fun q3 => ?_)
    · refine v_iinc 75 3 [1, 2, 3, 0, 4, 5, 6] rfl rfl (by decide) rfl ?_
      refine v_goto 76 rfl (tgt := 11) rfl ?_
      refine v_loc [0, 1, 2, 3] rfl ?_
      exact h
    · exact absurd q3 (by decide)
  · have h := h.2 q2
    refine v_iconst 39 rfl ?_
    refine v_goto 40 rfl (tgt := 64) rfl ?_
    refine v_istore 42 [1, 2, 3, 4, 5, 6, 0] rfl (by decide) rfl ?_
    refine v_goto 43 rfl (tgt := 120) rfl ?_
    refine v_iload 71 6 rfl rfl ?_
    refine v_if_eq 72 rfl (tgt := 127) rfl (by decide) (fun q4 => ?_) (fun q4 => ?_)
    · exact absurd q4 (by decide)
    · refine v_iconst 73 rfl ?_
      exact v_ret (v := some (I_ 0)) 74 rfl (Nat.zero_le _) (Nat.zero_le _) (Or.inl rfl) rfl h
set_option maxHeartbeats 8000000 in
set_option maxRecDepth 4000 in
theorem bX12_isRing_84 {d n : Nat} {dy : Nat → Shp} {g : Hp} {P : Pst} {x1 : Int} {x2 : Int} {x3 : Int} {x4 : Int} {x5 : Int} {xs0 : Int} (hn : 100 ≤ n) (h : (i3 xs0) ∧ ((xs0 ≠ 0) → P (some (I_ 0)) n (W0 dy) g) ∧ ((xs0 = 0) → Runs miX12_isOn d [.ref 53, I_ x2, I_ x4, I_ x3] n (W0 dy) g (fun v n' S' g' => V miX12_isRing (d + 1) 95 [(0, .ref 53), (1, I_ x1), (2, I_ x2), (3, I_ x3), (4, I_ x4), (5, I_ x5)] (v.toList ++ []) n' S' g' 0 0 P))) : V miX12_isRing (d + 1) 84 [(0, .ref 53), (1, I_ x1), (2, I_ x2), (3, I_ x3), (4, I_ x4), (5, I_ x5)] [I_ xs0] n (W0 dy) g 0 0 P := by
  have c1 := h.1
  have h := h.2
  refine v_if_ne 52 rfl (tgt := 98) rfl c1 (fun q2 => ?_) (fun q2 => ?_)
  · have h := h.1 q2
    refine v_iconst 59 rfl ?_
    refine v_goto 60 rfl (tgt := 103) rfl ?_
    refine v_istore 62 [1, 2, 3, 4, 5, 6, 0] rfl (by decide) rfl ?_
    refine v_goto 63 rfl (tgt := 120) rfl ?_
    refine v_iload 71 6 rfl rfl ?_
    refine v_if_eq 72 rfl (tgt := 127) rfl (by decide) (fun q3 => ?_) (fun q3 => ?_)
    · exact absurd q3 (by decide)
    · refine v_iconst 73 rfl ?_
      exact v_ret (v := some (I_ 0)) 74 rfl (Nat.zero_le _) (Nat.zero_le _) (Or.inl rfl) rfl h
  · have h := h.2 q2
    refine v_aload_n 53 0 rfl rfl rfl ?_
    refine v_iload_n 54 2 rfl rfl rfl ?_
    refine v_iload 55 4 rfl rfl ?_
    refine v_iload_n 56 3 rfl rfl rfl ?_
    refine v_callV (st := []) [I_ x2, I_ x4, I_ x3] 57 rfl lv12_200_isRing_11 (al 53 rfl hn) (wk53 dy) (by decide) rfl (Nat.le_refl _) (Nat.le_refl _) ?_
    exact h
set_option maxHeartbeats 8000000 in
set_option maxRecDepth 4000 in
theorem bX12_isRing_95 {d n : Nat} {dy : Nat → Shp} {g : Hp} {P : Pst} {x1 : Int} {x2 : Int} {x3 : Int} {x4 : Int} {x5 : Int} {xs0 : Int} (hn : 100 ≤ n) (h : (i3 xs0) ∧ ((xs0 = 0) → V miX12_isRing (d + 1) 11 [(0, .ref 53), (1, I_ x1), (2, I_ x2), (3, I_ (x3 + 1))] [] n (W0 dy) g 0 0 P) ∧ ((xs0 ≠ 0) → P (some (I_ 0)) n (W0 dy) g)) : V miX12_isRing (d + 1) 95 [(0, .ref 53), (1, I_ x1), (2, I_ x2), (3, I_ x3), (4, I_ x4), (5, I_ x5)] [I_ xs0] n (W0 dy) g 0 0 P := by
  have c1 := h.1
  have h := h.2
  refine v_if_eq 58 rfl (tgt := 102) rfl c1 (fun q2 => ?_) (fun q2 => ?_)
  · have h := h.1 q2
    refine v_iconst 61 rfl ?_
    refine v_istore 62 [1, 2, 3, 4, 5, 6, 0] rfl (by decide) rfl ?_
    refine v_goto 63 rfl (tgt := 120) rfl ?_
    refine v_iload 71 6 rfl rfl ?_
    refine v_if_eq 72 rfl (tgt := 127) rfl (by decide) (fun q3 => ?_) (fun q3 => ?_)
    · refine v_iinc 75 3 [1, 2, 3, 0, 4, 5, 6] rfl rfl (by decide) rfl ?_
      refine v_goto 76 rfl (tgt := 11) rfl ?_
      refine v_loc [0, 1, 2, 3] rfl ?_
      exact h
    · exact absurd q3 (by decide)
  · have h := h.2 q2
    refine v_iconst 59 rfl ?_
    refine v_goto 60 rfl (tgt := 103) rfl ?_
    refine v_istore 62 [1, 2, 3, 4, 5, 6, 0] rfl (by decide) rfl ?_
    refine v_goto 63 rfl (tgt := 120) rfl ?_
    refine v_iload 71 6 rfl rfl ?_
    refine v_if_eq 72 rfl (tgt := 127) rfl (by decide) (fun q4 => ?_) (fun q4 => ?_)
    · exact absurd q4 (by decide)
    · refine v_iconst 73 rfl ?_
      exact v_ret (v := some (I_ 0)) 74 rfl (Nat.zero_le _) (Nat.zero_le _) (Or.inl rfl) rfl h
set_option maxHeartbeats 8000000 in
set_option maxRecDepth 4000 in
theorem bX12_isRing_118 {d n : Nat} {dy : Nat → Shp} {g : Hp} {P : Pst} {x1 : Int} {x2 : Int} {x3 : Int} {x4 : Int} {x5 : Int} {xs0 : Int} (hn : 100 ≤ n) (h : (i3 xs0) ∧ ((xs0 = 0) → V miX12_isRing (d + 1) 11 [(0, .ref 53), (1, I_ x1), (2, I_ x2), (3, I_ (x3 + 1))] [] n (W0 dy) g 0 0 P) ∧ ((xs0 ≠ 0) → P (some (I_ 0)) n (W0 dy) g)) : V miX12_isRing (d + 1) 118 [(0, .ref 53), (1, I_ x1), (2, I_ x2), (3, I_ x3), (4, I_ x4), (5, I_ x5)] [I_ xs0] n (W0 dy) g 0 0 P := by
  refine v_istore 70 [1, 2, 3, 4, 5, 6, 0] rfl (by decide) rfl ?_
  refine v_iload 71 6 rfl rfl ?_
  have c1 := h.1
  have h := h.2
  refine v_if_eq 72 rfl (tgt := 127) rfl c1 (fun q2 => ?_) (fun q2 => ?_)
  · have h := h.1 q2
    refine v_iinc 75 3 [1, 2, 3, 0, 4, 5, 6] rfl rfl (by decide) rfl ?_
    refine v_goto 76 rfl (tgt := 11) rfl ?_
    refine v_loc [0, 1, 2, 3] rfl ?_
    exact h
  · have h := h.2 q2
    refine v_iconst 73 rfl ?_
    exact v_ret (v := some (I_ 0)) 74 rfl (Nat.zero_le _) (Nat.zero_le _) (Or.inl rfl) rfl h
theorem wX12_isRing {d n : Nat} {dy : Nat → Shp} {g : Hp} {P : Pst} {x1 : Int} (hn : 100 ≤ n) (h : V miX12_isRing (d + 1) 2 [(0, .ref 53), (1, I_ x1), (2, I_ 0)] [] n (W0 dy) g 0 0 P) : Runs miX12_isRing (d + 1) [.ref 53, I_ x1] n (W0 dy) g P := Runs.of rfl rfl deX12_isRing (Nat.le_of_ble_eq_true rfl) (bX12_isRing_0 hn h)
