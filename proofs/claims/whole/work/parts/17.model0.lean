theorem fl12_148_11 : FL RX12 148 11 1 false .int := ⟨RX12, TX12, 58, "MobileMakerModel", rfl, rfl, by decide, kf11, tbG_in (List.mem_append_right _ (List.mem_of_getElem? (i := 1128) (by decide +kernel))) rfl, Or.inl rfl, rfl, by decide +kernel, ⟨tyX12, tyX12_ok⟩, nmX12, fun h => by cases h⟩
set_option maxHeartbeats 8000000 in
set_option maxRecDepth 4000 in
theorem bX12_thrown_0 {d n : Nat} {dy : Nat → Shp} {g : Hp} {P : Pst}  (hn : 100 ≤ n) (h : P (some (I_ (g 53 1))) n (W0 dy) g) : V miX12_thrown d 0 [(0, .ref 53)] [] n (W0 dy) g 0 0 P := by
  refine v_aload_n 0 0 rfl rfl rfl ?_
  refine v_gI 1 rfl fl12_148_11.r (al 53 rfl hn) (wk53 dy) (by decide) rfl (wc53_1 dy) (x := g 53 1) rfl ?_
  refine v_rng fun w1 => ?_
  have r2 : i3 (g 53 1) := rI w1 (q := 1) (al 53 rfl hn) (wk53 dy) rfl rfl
  exact v_ret (v := some (I_ (g 53 1))) 2 rfl (Nat.zero_le _) (Nat.zero_le _) trivial rfl h
theorem fl12_152_11 : FL RX12 152 11 0 false .int := ⟨RX12, TX12, 58, "MobileMakerModel", rfl, rfl, by decide, kf11, tbG_in (List.mem_append_right _ (List.mem_of_getElem? (i := 1127) (by decide +kernel))) rfl, Or.inl rfl, rfl, by decide +kernel, ⟨tyX12, tyX12_ok⟩, nmX12, fun h => by cases h⟩
set_option maxHeartbeats 8000000 in
set_option maxRecDepth 4000 in
theorem bX12_status_0 {d n : Nat} {dy : Nat → Shp} {g : Hp} {P : Pst}  (hn : 100 ≤ n) (h : P (some (I_ (g 53 0))) n (W0 dy) (up2 g 53 1 0)) : V miX12_status d 0 [(0, .ref 53)] [] n (W0 dy) g 0 0 P := by
  refine v_aload_n 0 0 rfl rfl rfl ?_
  refine v_iconst 1 rfl ?_
  refine v_putI 2 rfl fl12_148_11 (al 53 rfl hn) (wk53 dy) (by decide) rfl (wc53_1 dy) (by decide) ?_
  refine v_aload_n 3 0 rfl rfl rfl ?_
  refine v_gI 4 rfl fl12_152_11.r (al 53 rfl hn) (wk53 dy) (by decide) rfl (wc53_0 dy) (x := g 53 0) rfl ?_
  refine v_rng fun w1 => ?_
  have r2 : i3 (g 53 0) := rI w1 (q := 0) (al 53 rfl hn) (wk53 dy) rfl rfl
  exact v_ret (v := some (I_ (g 53 0))) 5 rfl (Nat.zero_le _) (Nat.zero_le _) trivial rfl h
set_option maxHeartbeats 8000000 in
set_option maxRecDepth 4000 in
theorem bX12_refuse_0 {d n : Nat} {dy : Nat → Shp} {g : Hp} {P : Pst} {x1 : Int} (hn : 100 ≤ n) (h : (i3 x1) ∧ P (some (I_ ((-1)))) n (W0 dy) (up2 g 53 0 x1)) : V miX12_refuse d 0 [(0, .ref 53), (1, I_ x1)] [] n (W0 dy) g 0 0 P := by
  refine v_aload_n 0 0 rfl rfl rfl ?_
  refine v_iload_n 1 1 rfl rfl rfl ?_
  have c1 := h.1
  have h := h.2
  refine v_putI 2 rfl fl12_152_11 (al 53 rfl hn) (wk53 dy) (by decide) rfl (wc53_0 dy) c1 ?_
  refine v_iconst 3 rfl ?_
  exact v_ret (v := some (I_ ((-1)))) 4 rfl (Nat.zero_le _) (Nat.zero_le _) trivial rfl h
set_option maxHeartbeats 8000000 in
set_option maxRecDepth 4000 in
theorem bX12_no_0 {d n : Nat} {dy : Nat → Shp} {g : Hp} {P : Pst} {x1 : Int} (hn : 100 ≤ n) (h : (i3 x1) ∧ P (some (I_ 0)) n (W0 dy) (up2 g 53 0 x1)) : V miX12_no d 0 [(0, .ref 53), (1, I_ x1)] [] n (W0 dy) g 0 0 P := by
  refine v_aload_n 0 0 rfl rfl rfl ?_
  refine v_iload_n 1 1 rfl rfl rfl ?_
  have c1 := h.1
  have h := h.2
  refine v_putI 2 rfl fl12_152_11 (al 53 rfl hn) (wk53 dy) (by decide) rfl (wc53_0 dy) c1 ?_
  refine v_iconst 3 rfl ?_
  exact v_ret (v := some (I_ 0)) 4 rfl (Nat.zero_le _) (Nat.zero_le _) (Or.inl rfl) rfl h
set_option maxHeartbeats 8000000 in
set_option maxRecDepth 4000 in
theorem bX12_cut_0 {d n : Nat} {dy : Nat → Shp} {g : Hp} {P : Pst} {x0 : Int} {x1 : Int} (hn : 100 ≤ n) (h : (i3 x0) ∧ ((x0 ≠ 0) → ((x0 ≠ 1) → V miX12_cut d 23 [(0, I_ x0), (1, L_ x1)] [L_ x1] n (W0 dy) g 0 0 P) ∧ ((x0 = 1) → (i3 x1) ∧ V miX12_cut d 23 [(0, I_ x0), (1, L_ x1)] [L_ x1] n (W0 dy) g 0 0 P)) ∧ ((x0 = 0) → V miX12_cut d 23 [(0, I_ x0), (1, L_ x1)] [L_ (c2s x1)] n (W0 dy) g 0 0 P)) : V miX12_cut d 0 [(0, I_ x0), (1, L_ x1)] [] n (W0 dy) g 0 0 P := by
  refine v_iload_n 0 0 rfl rfl rfl ?_
  have c1 := h.1
  have h := h.2
  refine v_if_ne 1 rfl (tgt := 11) rfl c1 (fun q4 => ?_) (fun q4 => ?_)
  · have h := h.1 q4
    refine v_iload_n 7 0 rfl rfl rfl ?_
    refine v_iconst 8 rfl ?_
    refine v_icmp_ne 9 rfl (tgt := 22) rfl c1 (by decide) (fun q3 => ?_) (fun q3 => ?_)
    · have h := h.1 q3
      refine v_lload_n 14 1 rfl rfl rfl ?_
      exact h
    · have h := h.2 q3
      refine v_lload_n 10 1 rfl rfl rfl ?_
      refine v_l2i 11 rfl ?_
      have c2 := h.1
      have h := h.2
      refine v_i2l 12 rfl c2 ?_
      refine v_goto 13 rfl (tgt := 23) rfl ?_
      exact h
  · have h := h.2 q4
    refine v_lload_n 2 1 rfl rfl rfl ?_
    refine v_l2i 3 rfl ?_
    refine v_i2s 4 rfl ?_
    refine v_i2l 5 rfl (c2s_r _) ?_
    refine v_goto 6 rfl (tgt := 23) rfl ?_
    exact h
set_option maxHeartbeats 8000000 in
set_option maxRecDepth 4000 in
theorem bX12_cut_23 {d n : Nat} {dy : Nat → Shp} {g : Hp} {P : Pst} {x0 : Int} {x1 : Int} {xs0 : Int} (hn : 100 ≤ n) (h : P (some (L_ xs0)) n (W0 dy) g) : V miX12_cut d 23 [(0, I_ x0), (1, L_ x1)] [L_ xs0] n (W0 dy) g 0 0 P := by
  exact v_ret (v := some (L_ xs0)) 15 rfl (Nat.zero_le _) (Nat.zero_le _) trivial rfl h
theorem fl12_7_11 : FL RX12 7 11 2 true (.array .int) := ⟨RX12, TX12, 58, "MobileMakerModel", rfl, rfl, by decide, kf11, tbG_in (List.mem_append_right _ (List.mem_of_getElem? (i := 1129) (by decide +kernel))) rfl, Or.inl rfl, rfl, by decide +kernel, ⟨tyX12, tyX12_ok⟩, nmX12, fun _ => rfl⟩
theorem fl12_13_11 : FL RX12 13 11 3 true (.array .int) := ⟨RX12, TX12, 58, "MobileMakerModel", rfl, rfl, by decide, kf11, tbG_in (List.mem_append_right _ (List.mem_of_getElem? (i := 1130) (by decide +kernel))) rfl, Or.inl rfl, rfl, by decide +kernel, ⟨tyX12, tyX12_ok⟩, nmX12, fun _ => rfl⟩
theorem fl12_16_11 : FL RX12 16 11 4 true (.array .long) := ⟨RX12, TX12, 58, "MobileMakerModel", rfl, rfl, by decide, kf11, tbG_in (List.mem_append_right _ (List.mem_of_getElem? (i := 1131) (by decide +kernel))) rfl, Or.inl rfl, rfl, by decide +kernel, ⟨tyX12, tyX12_ok⟩, nmX12, fun _ => rfl⟩
theorem lv12_155_tray_11 : LkV miX12_tray miX12_no 155 1 11 := ⟨⟨⟨tbG_in (List.mem_append_right _ (List.mem_of_getElem? (i := 1318) (by decide +kernel))) rfl, tbG_in (List.mem_append_right _ (List.mem_of_getElem? (i := 9) (by decide +kernel))) rfl, tbG_in (List.mem_append_right _ (List.mem_of_getElem? (i := 1315) (by decide +kernel))) rfl⟩, ⟨by decide +kernel, by decide +kernel, by decide +kernel⟩, by decide⟩, tbG_in (List.mem_append_right _ (List.mem_of_getElem? (i := 1317) (by decide +kernel))) rfl, RX12, TX12, 58, rfl, tbG_in (List.mem_append_left _ (List.mem_of_getElem? (i := 47) (by decide +kernel))) rfl⟩
set_option maxHeartbeats 8000000 in
set_option maxRecDepth 4000 in
theorem bX12_tray_0 {d n : Nat} {dy : Nat → Shp} {g : Hp} {P : Pst} {x1 : Int} {x2 : Int} {x3 : Int} (hn : 100 ≤ n) (h : (i3 x1) ∧ ((x1 < 0) → V miX12_tray (d + 1) 29 [(0, .ref 53), (1, I_ x1), (2, I_ x2), (3, I_ x3)] [] n (W0 dy) (up2 (up2 g 53 1 0) 53 0 0) 0 0 P) ∧ ((0 ≤ x1) → ((6 ≤ x1) → V miX12_tray (d + 1) 29 [(0, .ref 53), (1, I_ x1), (2, I_ x2), (3, I_ x3)] [] n (W0 dy) (up2 (up2 g 53 1 0) 53 0 0) 0 0 P) ∧ ((x1 < 6) → (i3 x2) ∧ ((x2 < 0) → V miX12_tray (d + 1) 29 [(0, .ref 53), (1, I_ x1), (2, I_ x2), (3, I_ x3)] [] n (W0 dy) (up2 (up2 g 53 1 0) 53 0 0) 0 0 P) ∧ ((0 ≤ x2) → ((x2 ≤ 2) → (i3 x3) ∧ ((0 ≤ x3) → ((x3 ≤ 16) → (0 ≤ x1 ∧ x1 < 6) ∧ V miX12_tray (d + 1) 76 [(0, .ref 53), (1, I_ x1), (2, I_ x2), (3, I_ x3), (4, I_ 0)] [] n (W0 dy) (up2 (up2 (up2 (up2 g 53 1 0) 53 0 0) 54 x1.toNat x2) 55 x1.toNat x3) 0 0 P) ∧ ((16 < x3) → Runs miX12_no d [.ref 53, I_ 7] n (W0 dy) (up2 (up2 g 53 1 0) 53 0 0) (fun v n' S' g' => V miX12_tray (d + 1) 58 [(0, .ref 53), (1, I_ x1), (2, I_ x2), (3, I_ x3)] (v.toList ++ []) n' S' g' 0 0 P))) ∧ ((x3 < 0) → Runs miX12_no d [.ref 53, I_ 6] n (W0 dy) (up2 (up2 g 53 1 0) 53 0 0) (fun v n' S' g' => V miX12_tray (d + 1) 45 [(0, .ref 53), (1, I_ x1), (2, I_ x2), (3, I_ x3)] (v.toList ++ []) n' S' g' 0 0 P))) ∧ ((2 < x2) → V miX12_tray (d + 1) 29 [(0, .ref 53), (1, I_ x1), (2, I_ x2), (3, I_ x3)] [] n (W0 dy) (up2 (up2 g 53 1 0) 53 0 0) 0 0 P))))) : V miX12_tray (d + 1) 0 [(0, .ref 53), (1, I_ x1), (2, I_ x2), (3, I_ x3)] [] n (W0 dy) g 0 0 P := by
  refine v_aload_n 0 0 rfl rfl rfl ?_
  refine v_iconst 1 rfl ?_
  refine v_putI 2 rfl fl12_148_11 (al 53 rfl hn) (wk53 dy) (by decide) rfl (wc53_1 dy) (by decide) ?_
  refine v_aload_n 3 0 rfl rfl rfl ?_
  refine v_iconst 4 rfl ?_
  refine v_putI 5 rfl fl12_152_11 (al 53 rfl hn) (wk53 dy) (by decide) rfl (wc53_0 dy) (by decide) ?_
  refine v_iload_n 6 1 rfl rfl rfl ?_
  have c1 := h.1
  have h := h.2
  refine v_if_lt 7 rfl (tgt := 29) rfl c1 (fun q10 => ?_) (fun q10 => ?_)
  · have h := h.1 q10
    exact h
  · have h := h.2 q10
    refine v_iload_n 8 1 rfl rfl rfl ?_
    refine v_bipush 9 rfl (by decide) ?_
    refine v_icmp_ge 10 rfl (tgt := 29) rfl c1 (by decide) (fun q9 => ?_) (fun q9 => ?_)
    · have h := h.1 q9
      exact h
    · have h := h.2 q9
      refine v_iload_n 11 2 rfl rfl rfl ?_
      have c2 := h.1
      have h := h.2
      refine v_if_lt 12 rfl (tgt := 29) rfl c2 (fun q8 => ?_) (fun q8 => ?_)
      · have h := h.1 q8
        exact h
      · have h := h.2 q8
        refine v_iload_n 13 2 rfl rfl rfl ?_
        refine v_iconst 14 rfl ?_
        refine v_icmp_le 15 rfl (tgt := 35) rfl c2 (by decide) (fun q7 => ?_) (fun q7 => ?_)
        · have h := h.1 q7
          refine v_iload_n 20 3 rfl rfl rfl ?_
          have c3 := h.1
          have h := h.2
          refine v_if_ge 21 rfl (tgt := 46) rfl c3 (fun q6 => ?_) (fun q6 => ?_)
          · have h := h.1 q6
            refine v_iload_n 26 3 rfl rfl rfl ?_
            refine v_bipush 27 rfl (by decide) ?_
            refine v_icmp_le 28 rfl (tgt := 59) rfl c3 (by decide) (fun q5 => ?_) (fun q5 => ?_)
            · have h := h.1 q5
              refine v_aload_n 33 0 rfl rfl rfl ?_
              refine v_gK 34 rfl fl12_7_11.r (al 53 rfl hn) (wk53 dy) (by decide) rfl (r := 54) (wc53_2 dy) ?_
              refine v_iload_n 35 1 rfl rfl rfl ?_
              refine v_iload_n 36 2 rfl rfl rfl ?_
              have c4 := h.1
              have h := h.2
              refine v_iast (N := 6) 37 rfl (al 54 rfl hn) (wk54 dy) (wn54 dy) (by decide) c4 c2 ?_
              refine v_aload_n 38 0 rfl rfl rfl ?_
              refine v_gK 39 rfl fl12_13_11.r (al 53 rfl hn) (wk53 dy) (by decide) rfl (r := 55) (wc53_3 dy) ?_
              refine v_iload_n 40 1 rfl rfl rfl ?_
              refine v_iload_n 41 3 rfl rfl rfl ?_
              refine v_iast (N := 6) 42 rfl (al 55 rfl hn) (wk55 dy) (wn55 dy) (by decide) c4 c3 ?_
              refine v_iconst 43 rfl ?_
              refine v_istore 44 [1, 2, 3, 4, 0] rfl (by decide) rfl ?_
              exact h
            · have h := h.2 q5
              refine v_aload_n 29 0 rfl rfl rfl ?_
              refine v_bipush 30 rfl (by decide) ?_
              refine v_callV (st := []) [I_ 7] 31 rfl lv12_155_tray_11 (al 53 rfl hn) (wk53 dy) (by decide) rfl (Nat.le_refl _) (Nat.le_refl _) ?_
              exact h
          · have h := h.2 q6
            refine v_aload_n 22 0 rfl rfl rfl ?_
            refine v_bipush 23 rfl (by decide) ?_
            refine v_callV (st := []) [I_ 6] 24 rfl lv12_155_tray_11 (al 53 rfl hn) (wk53 dy) (by decide) rfl (Nat.le_refl _) (Nat.le_refl _) ?_
            exact h
        · have h := h.2 q7
          exact h
set_option maxHeartbeats 8000000 in
set_option maxRecDepth 4000 in
theorem bX12_tray_29 {d n : Nat} {dy : Nat → Shp} {g : Hp} {P : Pst} {x1 : Int} {x2 : Int} {x3 : Int} (hn : 100 ≤ n) (h : Runs miX12_no d [.ref 53, I_ 1] n (W0 dy) g (fun v n' S' g' => V miX12_tray (d + 1) 34 [(0, .ref 53), (1, I_ x1), (2, I_ x2), (3, I_ x3)] (v.toList ++ []) n' S' g' 0 0 P)) : V miX12_tray (d + 1) 29 [(0, .ref 53), (1, I_ x1), (2, I_ x2), (3, I_ x3)] [] n (W0 dy) g 0 0 P := by
  refine v_aload_n 16 0 rfl rfl rfl ?_
  refine v_iconst 17 rfl ?_
  refine v_callV (st := []) [I_ 1] 18 rfl lv12_155_tray_11 (al 53 rfl hn) (wk53 dy) (by decide) rfl (Nat.le_refl _) (Nat.le_refl _) ?_
  exact h
set_option maxHeartbeats 8000000 in
set_option maxRecDepth 4000 in
theorem bX12_tray_34 {d n : Nat} {dy : Nat → Shp} {g : Hp} {P : Pst} {x1 : Int} {x2 : Int} {x3 : Int} {xs0 : Int} (hn : 100 ≤ n) (h : (xs0 = 0 ∨ xs0 = 1) ∧ P (some (I_ xs0)) n (W0 dy) g) : V miX12_tray (d + 1) 34 [(0, .ref 53), (1, I_ x1), (2, I_ x2), (3, I_ x3)] [I_ xs0] n (W0 dy) g 0 0 P := by
  have c1 := h.1
  have h := h.2
  exact v_ret (v := some (I_ xs0)) 19 rfl (Nat.zero_le _) (Nat.zero_le _) (rokZ c1) rfl h
set_option maxHeartbeats 8000000 in
set_option maxRecDepth 4000 in
theorem bX12_tray_45 {d n : Nat} {dy : Nat → Shp} {g : Hp} {P : Pst} {x1 : Int} {x2 : Int} {x3 : Int} {xs0 : Int} (hn : 100 ≤ n) (h : (xs0 = 0 ∨ xs0 = 1) ∧ P (some (I_ xs0)) n (W0 dy) g) : V miX12_tray (d + 1) 45 [(0, .ref 53), (1, I_ x1), (2, I_ x2), (3, I_ x3)] [I_ xs0] n (W0 dy) g 0 0 P := by
  have c1 := h.1
  have h := h.2
  exact v_ret (v := some (I_ xs0)) 25 rfl (Nat.zero_le _) (Nat.zero_le _) (rokZ c1) rfl h
set_option maxHeartbeats 8000000 in
set_option maxRecDepth 4000 in
theorem bX12_tray_58 {d n : Nat} {dy : Nat → Shp} {g : Hp} {P : Pst} {x1 : Int} {x2 : Int} {x3 : Int} {xs0 : Int} (hn : 100 ≤ n) (h : (xs0 = 0 ∨ xs0 = 1) ∧ P (some (I_ xs0)) n (W0 dy) g) : V miX12_tray (d + 1) 58 [(0, .ref 53), (1, I_ x1), (2, I_ x2), (3, I_ x3)] [I_ xs0] n (W0 dy) g 0 0 P := by
  have c1 := h.1
  have h := h.2
  exact v_ret (v := some (I_ xs0)) 32 rfl (Nat.zero_le _) (Nat.zero_le _) (rokZ c1) rfl h
set_option maxHeartbeats 8000000 in
set_option maxRecDepth 4000 in
theorem bX12_tray_76 {d n : Nat} {dy : Nat → Shp} {g : Hp} {P : Pst} {x1 : Int} {x2 : Int} {x3 : Int} {x4 : Int} (hn : 100 ≤ n) (h : (i3 x4) ∧ (i3 x3) ∧ ((x3 ≤ x4) → P (some (I_ 1)) n (W0 dy) g) ∧ ((x4 < x3) → (0 ≤ (16 * x1) + x4 ∧ (16 * x1) + x4 < 96) ∧ V miX12_tray (d + 1) 76 [(0, .ref 53), (1, I_ x1), (2, I_ x2), (3, I_ x3), (4, I_ (x4 + 1))] [] n (W0 dy) (up2 g 56 (((16 * x1) + x4).toNat) 0) 0 0 P)) : V miX12_tray (d + 1) 76 [(0, .ref 53), (1, I_ x1), (2, I_ x2), (3, I_ x3), (4, I_ x4)] [] n (W0 dy) g 0 0 P := by
  refine v_iload 45 4 rfl rfl ?_
  refine v_iload_n 46 3 rfl rfl rfl ?_
  have c1 := h.1
  have h := h.2
  have c2 := h.1
  have h := h.2
  refine v_icmp_ge 47 rfl (tgt := 101) rfl c1 c2 (fun q4 => ?_) (fun q4 => ?_)
  · have h := h.1 q4
    refine v_iconst 59 rfl ?_
    exact v_ret (v := some (I_ 1)) 60 rfl (Nat.zero_le _) (Nat.zero_le _) (Or.inr rfl) rfl h
  · have h := h.2 q4
    refine v_aload_n 48 0 rfl rfl rfl ?_
    refine v_gK 49 rfl fl12_16_11.r (al 53 rfl hn) (wk53 dy) (by decide) rfl (r := 56) (wc53_4 dy) ?_
    refine v_bipush 50 rfl (by decide) ?_
    refine v_iload_n 51 1 rfl rfl rfl ?_
    refine v_imul 52 rfl ?_
    refine v_iload 53 4 rfl rfl ?_
    refine v_iadd 54 rfl ?_
    refine v_lconst (v := 0) 55 rfl (by decide) ?_
    have c3 := h.1
    have h := h.2
    refine v_last (N := 96) 56 rfl (al 56 rfl hn) (wk56 dy) (wn56 dy) (by decide) c3 (by decide) ?_
    refine v_iinc 57 4 [1, 2, 3, 4, 0] rfl rfl (by decide) rfl ?_
    refine v_goto 58 rfl (tgt := 76) rfl ?_
    exact h
set_option maxHeartbeats 8000000 in
set_option maxRecDepth 4000 in
theorem bX12_placed_0 {d n : Nat} {dy : Nat → Shp} {g : Hp} {P : Pst} {x1 : Int} {x2 : Int} (hn : 100 ≤ n) (h : (i3 x1) ∧ ((x1 < 0) → V miX12_placed d 10 [(0, .ref 53), (1, I_ x1), (2, I_ x2)] [] n (W0 dy) g 0 0 P) ∧ ((0 ≤ x1) → ((x1 < 6) → (0 ≤ x1 ∧ x1 < 6) ∧ ((0 ≤ (g 55 x1.toNat)) → (i3 x2) ∧ ((x2 < 0) → V miX12_placed d 39 [(0, .ref 53), (1, I_ x1), (2, I_ x2)] [] n (W0 dy) g 0 0 P) ∧ ((0 ≤ x2) → ((x2 < (g 55 x1.toNat)) → V miX12_placed d 44 [(0, .ref 53), (1, I_ x1), (2, I_ x2)] [I_ 0] n (W0 dy) g 0 0 P) ∧ (((g 55 x1.toNat) ≤ x2) → V miX12_placed d 39 [(0, .ref 53), (1, I_ x1), (2, I_ x2)] [] n (W0 dy) g 0 0 P))) ∧ (((g 55 x1.toNat) < 0) → V miX12_placed d 44 [(0, .ref 53), (1, I_ x1), (2, I_ x2)] [I_ 3] n (W0 dy) g 0 0 P)) ∧ ((6 ≤ x1) → V miX12_placed d 10 [(0, .ref 53), (1, I_ x1), (2, I_ x2)] [] n (W0 dy) g 0 0 P))) : V miX12_placed d 0 [(0, .ref 53), (1, I_ x1), (2, I_ x2)] [] n (W0 dy) g 0 0 P := by
  refine v_iload_n 0 1 rfl rfl rfl ?_
  have c1 := h.1
  have h := h.2
  refine v_if_lt 1 rfl (tgt := 10) rfl c1 (fun q12 => ?_) (fun q12 => ?_)
  · have h := h.1 q12
    exact h
  · have h := h.2 q12
    refine v_iload_n 2 1 rfl rfl rfl ?_
    refine v_bipush 3 rfl (by decide) ?_
    refine v_icmp_lt 4 rfl (tgt := 12) rfl c1 (by decide) (fun q11 => ?_) (fun q11 => ?_)
    · have h := h.1 q11
      refine v_aload_n 7 0 rfl rfl rfl ?_
      refine v_gK 8 rfl fl12_13_11.r (al 53 rfl hn) (wk53 dy) (by decide) rfl (r := 55) (wc53_3 dy) ?_
      refine v_iload_n 9 1 rfl rfl rfl ?_
      have c2 := h.1
      have h := h.2
      refine v_ia (N := 6) 10 rfl (al 55 rfl hn) (wk55 dy) (wn55 dy) (by decide) c2 (y := g 55 x1.toNat) rfl ?_
      refine v_rng fun w3 => ?_
      have r4 : i3 (g 55 x1.toNat) := rI w3 (q := x1.toNat) (al 55 rfl hn) (wk55 dy) rfl rfl
      refine v_if_ge 11 rfl (tgt := 25) rfl r4 (fun q10 => ?_) (fun q10 => ?_)
      · have h := h.1 q10
        refine v_iload_n 14 2 rfl rfl rfl ?_
        have c5 := h.1
        have h := h.2
        refine v_if_lt 15 rfl (tgt := 39) rfl c5 (fun q9 => ?_) (fun q9 => ?_)
        · have h := h.1 q9
          exact h
        · have h := h.2 q9
          refine v_iload_n 16 2 rfl rfl rfl ?_
          refine v_aload_n 17 0 rfl rfl rfl ?_
          refine v_gK 18 rfl fl12_13_11.r (al 53 rfl hn) (wk53 dy) (by decide) rfl (r := 55) (wc53_3 dy) ?_
          refine v_iload_n 19 1 rfl rfl rfl ?_
          refine v_ia (N := 6) 20 rfl (al 55 rfl hn) (wk55 dy) (wn55 dy) (by decide) c2 (y := g 55 x1.toNat) rfl ?_
          refine v_rng fun w6 => ?_
          have r7 : i3 (g 55 x1.toNat) := rI w6 (q := x1.toNat) (al 55 rfl hn) (wk55 dy) rfl rfl
          refine v_icmp_lt 21 rfl (tgt := 43) rfl c5 r7 (fun q8 => ?_) (fun q8 => ?_)
          · have h := h.1 q8
            refine v_iconst 24 rfl ?_
            exact h
          · have h := h.2 q8
            exact h
      · have h := h.2 q10
        refine v_iconst 12 rfl ?_
        refine v_goto 13 rfl (tgt := 44) rfl ?_
        exact h
    · have h := h.2 q11
      exact h
set_option maxHeartbeats 8000000 in
set_option maxRecDepth 4000 in
theorem bX12_placed_10 {d n : Nat} {dy : Nat → Shp} {g : Hp} {P : Pst} {x1 : Int} {x2 : Int} (hn : 100 ≤ n) (h : P (some (I_ 1)) n (W0 dy) g) : V miX12_placed d 10 [(0, .ref 53), (1, I_ x1), (2, I_ x2)] [] n (W0 dy) g 0 0 P := by
  refine v_iconst 5 rfl ?_
  exact v_ret (v := some (I_ 1)) 6 rfl (Nat.zero_le _) (Nat.zero_le _) trivial rfl h
set_option maxHeartbeats 8000000 in
set_option maxRecDepth 4000 in
theorem bX12_placed_39 {d n : Nat} {dy : Nat → Shp} {g : Hp} {P : Pst} {x1 : Int} {x2 : Int} (hn : 100 ≤ n) (h : V miX12_placed d 44 [(0, .ref 53), (1, I_ x1), (2, I_ x2)] [I_ 4] n (W0 dy) g 0 0 P) : V miX12_placed d 39 [(0, .ref 53), (1, I_ x1), (2, I_ x2)] [] n (W0 dy) g 0 0 P := by
  refine v_iconst 22 rfl ?_
  refine v_goto 23 rfl (tgt := 44) rfl ?_
  exact h
set_option maxHeartbeats 8000000 in
set_option maxRecDepth 4000 in
theorem bX12_placed_44 {d n : Nat} {dy : Nat → Shp} {g : Hp} {P : Pst} {x1 : Int} {x2 : Int} {xs0 : Int} (hn : 100 ≤ n) (h : P (some (I_ xs0)) n (W0 dy) g) : V miX12_placed d 44 [(0, .ref 53), (1, I_ x1), (2, I_ x2)] [I_ xs0] n (W0 dy) g 0 0 P := by
  exact v_ret (v := some (I_ xs0)) 25 rfl (Nat.zero_le _) (Nat.zero_le _) trivial rfl h
theorem lv12_159_write_11 : LkV miX12_write miX12_placed 159 2 11 := ⟨⟨⟨tbG_in (List.mem_append_right _ (List.mem_of_getElem? (i := 1326) (by decide +kernel))) rfl, tbG_in (List.mem_append_right _ (List.mem_of_getElem? (i := 9) (by decide +kernel))) rfl, tbG_in (List.mem_append_right _ (List.mem_of_getElem? (i := 1323) (by decide +kernel))) rfl⟩, ⟨by decide +kernel, by decide +kernel, by decide +kernel⟩, by decide⟩, tbG_in (List.mem_append_right _ (List.mem_of_getElem? (i := 1325) (by decide +kernel))) rfl, RX12, TX12, 58, rfl, tbG_in (List.mem_append_left _ (List.mem_of_getElem? (i := 48) (by decide +kernel))) rfl⟩
theorem ls12_163_write : LkS miX12_write miX12_cut 163 2 := ⟨⟨⟨tbG_in (List.mem_append_right _ (List.mem_of_getElem? (i := 1329) (by decide +kernel))) rfl, tbG_in (List.mem_append_right _ (List.mem_of_getElem? (i := 9) (by decide +kernel))) rfl, tbG_in (List.mem_append_right _ (List.mem_of_getElem? (i := 1327) (by decide +kernel))) rfl⟩, ⟨by decide +kernel, by decide +kernel, by decide +kernel⟩, by decide⟩, tbG_in (List.mem_append_right _ (List.mem_of_getElem? (i := 1328) (by decide +kernel))) rfl⟩
set_option maxHeartbeats 8000000 in
set_option maxRecDepth 4000 in
theorem bX12_write_0 {d n : Nat} {dy : Nat → Shp} {g : Hp} {P : Pst} {x1 : Int} {x2 : Int} {x3 : Int} (hn : 100 ≤ n) (h : Runs miX12_placed d [.ref 53, I_ x1, I_ x2] n (W0 dy) (up2 g 53 1 0) (fun v n' S' g' => V miX12_write (d + 1) 12 [(0, .ref 53), (1, I_ x1), (2, I_ x2), (3, L_ x3)] (v.toList ++ [.ref 53]) n' S' g' 0 0 P)) : V miX12_write (d + 1) 0 [(0, .ref 53), (1, I_ x1), (2, I_ x2), (3, L_ x3)] [] n (W0 dy) g 0 0 P := by
  refine v_aload_n 0 0 rfl rfl rfl ?_
  refine v_iconst 1 rfl ?_
  refine v_putI 2 rfl fl12_148_11 (al 53 rfl hn) (wk53 dy) (by decide) rfl (wc53_1 dy) (by decide) ?_
  refine v_aload_n 3 0 rfl rfl rfl ?_
  refine v_aload_n 4 0 rfl rfl rfl ?_
  refine v_iload_n 5 1 rfl rfl rfl ?_
  refine v_iload_n 6 2 rfl rfl rfl ?_
  refine v_callV (st := [.ref 53]) [I_ x1, I_ x2] 7 rfl lv12_159_write_11 (al 53 rfl hn) (wk53 dy) (by decide) rfl (Nat.le_refl _) (Nat.le_refl _) ?_
  exact h
set_option maxHeartbeats 8000000 in
set_option maxRecDepth 4000 in
theorem bX12_write_12 {d n : Nat} {dy : Nat → Shp} {g : Hp} {P : Pst} {x1 : Int} {x2 : Int} {x3 : Int} {xs1 : Int} (hn : 100 ≤ n) (h : (i3 xs1) ∧ ((xs1 ≤ 0) → (0 ≤ x1 ∧ x1 < 6) ∧ Runs miX12_cut d [I_ (g 54 x1.toNat), L_ x3] n (W0 dy) (up2 g 53 0 xs1) (fun v n' S' g' => V miX12_write (d + 1) 44 [(0, .ref 53), (1, I_ x1), (2, I_ x2), (3, L_ x3)] (v.toList ++ [I_ ((16 * x1) + x2), .ref 56]) n' S' g' 0 0 P)) ∧ ((0 < xs1) → P (some (I_ 0)) n (W0 dy) (up2 g 53 0 xs1))) : V miX12_write (d + 1) 12 [(0, .ref 53), (1, I_ x1), (2, I_ x2), (3, L_ x3)] [I_ xs1, .ref 53] n (W0 dy) g 0 0 P := by
  have c1 := h.1
  have h := h.2
  refine v_putI 8 rfl fl12_152_11 (al 53 rfl hn) (wk53 dy) (by decide) rfl (wc53_0 dy) c1 ?_
  refine v_aload_n 9 0 rfl rfl rfl ?_
  refine v_gI 10 rfl fl12_152_11.r (al 53 rfl hn) (wk53 dy) (by decide) rfl (wc53_0 dy) (x := xs1) rfl ?_
  refine v_rng fun w2 => ?_
  have r3 : i3 (xs1) := rI w2 (q := 0) (al 53 rfl hn) (wk53 dy) rfl rfl
  refine v_if_le 11 rfl (tgt := 24) rfl r3 (fun q7 => ?_) (fun q7 => ?_)
  · have h := h.1 q7
    refine v_aload_n 14 0 rfl rfl rfl ?_
    refine v_gK 15 rfl fl12_16_11.r (al 53 rfl hn) (wk53 dy) (by decide) rfl (r := 56) (wc53_4 dy) ?_
    refine v_bipush 16 rfl (by decide) ?_
    refine v_iload_n 17 1 rfl rfl rfl ?_
    refine v_imul 18 rfl ?_
    refine v_iload_n 19 2 rfl rfl rfl ?_
    refine v_iadd 20 rfl ?_
    refine v_aload_n 21 0 rfl rfl rfl ?_
    refine v_gK 22 rfl fl12_7_11.r (al 53 rfl hn) (wk53 dy) (by decide) rfl (r := 54) (wc53_2 dy) ?_
    refine v_iload_n 23 1 rfl rfl rfl ?_
    have c4 := h.1
    have h := h.2
    refine v_ia (N := 6) 24 rfl (al 54 rfl hn) (wk54 dy) (wn54 dy) (by decide) c4 (y := g 54 x1.toNat) rfl ?_
    refine v_rng fun w5 => ?_
    have r6 : i3 (g 54 x1.toNat) := rI w5 (q := x1.toNat) (al 54 rfl hn) (wk54 dy) rfl rfl
    refine v_lload_n 25 3 rfl rfl rfl ?_
    refine v_callS (st := [I_ ((16 * x1) + x2), .ref 56]) [I_ (g 54 x1.toNat), L_ x3] 26 rfl ls12_163_write rfl (Nat.lt_of_lt_of_le (by decide) hn) (Nat.le_refl _) (Nat.le_refl _) ?_
    exact h
  · have h := h.2 q7
    refine v_iconst 12 rfl ?_
    exact v_ret (v := some (I_ 0)) 13 rfl (Nat.zero_le _) (Nat.zero_le _) (Or.inl rfl) rfl h
set_option maxHeartbeats 8000000 in
set_option maxRecDepth 4000 in
theorem bX12_write_44 {d n : Nat} {dy : Nat → Shp} {g : Hp} {P : Pst} {x1 : Int} {x2 : Int} {x3 : Int} {xs1 : Int} {xs2 : Int} (hn : 100 ≤ n) (h : (0 ≤ xs1 ∧ xs1 < 96) ∧ (i6 xs2) ∧ P (some (I_ 1)) n (W0 dy) (up2 g 56 xs1.toNat xs2)) : V miX12_write (d + 1) 44 [(0, .ref 53), (1, I_ x1), (2, I_ x2), (3, L_ x3)] [L_ xs2, I_ xs1, .ref 56] n (W0 dy) g 0 0 P := by
  have c1 := h.1
  have h := h.2
  have c2 := h.1
  have h := h.2
  refine v_last (N := 96) 27 rfl (al 56 rfl hn) (wk56 dy) (wn56 dy) (by decide) c1 c2 ?_
  refine v_iconst 28 rfl ?_
  exact v_ret (v := some (I_ 1)) 29 rfl (Nat.zero_le _) (Nat.zero_le _) (Or.inr rfl) rfl h
theorem lv12_159_read_11 : LkV miX12_read miX12_placed 159 2 11 := ⟨⟨⟨tbG_in (List.mem_append_right _ (List.mem_of_getElem? (i := 1326) (by decide +kernel))) rfl, tbG_in (List.mem_append_right _ (List.mem_of_getElem? (i := 9) (by decide +kernel))) rfl, tbG_in (List.mem_append_right _ (List.mem_of_getElem? (i := 1323) (by decide +kernel))) rfl⟩, ⟨by decide +kernel, by decide +kernel, by decide +kernel⟩, by decide⟩, tbG_in (List.mem_append_right _ (List.mem_of_getElem? (i := 1325) (by decide +kernel))) rfl, RX12, TX12, 58, rfl, tbG_in (List.mem_append_left _ (List.mem_of_getElem? (i := 48) (by decide +kernel))) rfl⟩
set_option maxHeartbeats 8000000 in
set_option maxRecDepth 4000 in
theorem bX12_read_0 {d n : Nat} {dy : Nat → Shp} {g : Hp} {P : Pst} {x1 : Int} {x2 : Int} (hn : 100 ≤ n) (h : Runs miX12_placed d [.ref 53, I_ x1, I_ x2] n (W0 dy) (up2 g 53 1 0) (fun v n' S' g' => V miX12_read (d + 1) 12 [(0, .ref 53), (1, I_ x1), (2, I_ x2)] (v.toList ++ [.ref 53]) n' S' g' 0 0 P)) : V miX12_read (d + 1) 0 [(0, .ref 53), (1, I_ x1), (2, I_ x2)] [] n (W0 dy) g 0 0 P := by
  refine v_aload_n 0 0 rfl rfl rfl ?_
  refine v_iconst 1 rfl ?_
  refine v_putI 2 rfl fl12_148_11 (al 53 rfl hn) (wk53 dy) (by decide) rfl (wc53_1 dy) (by decide) ?_
  refine v_aload_n 3 0 rfl rfl rfl ?_
  refine v_aload_n 4 0 rfl rfl rfl ?_
  refine v_iload_n 5 1 rfl rfl rfl ?_
  refine v_iload_n 6 2 rfl rfl rfl ?_
  refine v_callV (st := [.ref 53]) [I_ x1, I_ x2] 7 rfl lv12_159_read_11 (al 53 rfl hn) (wk53 dy) (by decide) rfl (Nat.le_refl _) (Nat.le_refl _) ?_
  exact h
set_option maxHeartbeats 8000000 in
set_option maxRecDepth 4000 in
theorem bX12_read_12 {d n : Nat} {dy : Nat → Shp} {g : Hp} {P : Pst} {x1 : Int} {x2 : Int} {xs1 : Int} (hn : 100 ≤ n) (h : (i3 xs1) ∧ ((xs1 ≤ 0) → (0 ≤ (16 * x1) + x2 ∧ (16 * x1) + x2 < 96) ∧ V miX12_read (d + 1) 39 [(0, .ref 53), (1, I_ x1), (2, I_ x2)] [L_ (g 56 (((16 * x1) + x2).toNat))] n (W0 dy) (up2 g 53 0 xs1) 0 0 P) ∧ ((0 < xs1) → V miX12_read (d + 1) 39 [(0, .ref 53), (1, I_ x1), (2, I_ x2)] [L_ ((-1))] n (W0 dy) (up2 g 53 0 xs1) 0 0 P)) : V miX12_read (d + 1) 12 [(0, .ref 53), (1, I_ x1), (2, I_ x2)] [I_ xs1, .ref 53] n (W0 dy) g 0 0 P := by
  have c1 := h.1
  have h := h.2
  refine v_putI 8 rfl fl12_152_11 (al 53 rfl hn) (wk53 dy) (by decide) rfl (wc53_0 dy) c1 ?_
  refine v_aload_n 9 0 rfl rfl rfl ?_
  refine v_gI 10 rfl fl12_152_11.r (al 53 rfl hn) (wk53 dy) (by decide) rfl (wc53_0 dy) (x := xs1) rfl ?_
  refine v_rng fun w2 => ?_
  have r3 : i3 (xs1) := rI w2 (q := 0) (al 53 rfl hn) (wk53 dy) rfl rfl
  refine v_if_le 11 rfl (tgt := 28) rfl r3 (fun q7 => ?_) (fun q7 => ?_)
  · have h := h.1 q7
    refine v_aload_n 14 0 rfl rfl rfl ?_
    refine v_gK 15 rfl fl12_16_11.r (al 53 rfl hn) (wk53 dy) (by decide) rfl (r := 56) (wc53_4 dy) ?_
    refine v_bipush 16 rfl (by decide) ?_
    refine v_iload_n 17 1 rfl rfl rfl ?_
    refine v_imul 18 rfl ?_
    refine v_iload_n 19 2 rfl rfl rfl ?_
    refine v_iadd 20 rfl ?_
    have c4 := h.1
    have h := h.2
    refine v_la (N := 96) 21 rfl (al 56 rfl hn) (wk56 dy) (wn56 dy) (by decide) c4 (y := g 56 (((16 * x1) + x2).toNat)) rfl ?_
    refine v_rng fun w5 => ?_
    have r6 : i6 (g 56 (((16 * x1) + x2).toNat)) := rL w5 (q := (((16 * x1) + x2).toNat)) (al 56 rfl hn) (wk56 dy) rfl rfl
    exact h
  · have h := h.2 q7
    refine v_ldc2 (v := (-1)) 12 rfl (tbG_in (List.mem_append_right _ (List.mem_of_getElem? (i := 1334) (by decide +kernel))) rfl) ?_
    refine v_goto 13 rfl (tgt := 39) rfl ?_
    exact h
set_option maxHeartbeats 8000000 in
set_option maxRecDepth 4000 in
theorem bX12_read_39 {d n : Nat} {dy : Nat → Shp} {g : Hp} {P : Pst} {x1 : Int} {x2 : Int} {xs0 : Int} (hn : 100 ≤ n) (h : P (some (L_ xs0)) n (W0 dy) g) : V miX12_read (d + 1) 39 [(0, .ref 53), (1, I_ x1), (2, I_ x2)] [L_ xs0] n (W0 dy) g 0 0 P := by
  exact v_ret (v := some (L_ xs0)) 22 rfl (Nat.zero_le _) (Nat.zero_le _) trivial rfl h
theorem lv12_155_pour_11 : LkV miX12_pour miX12_no 155 1 11 := ⟨⟨⟨tbG_in (List.mem_append_right _ (List.mem_of_getElem? (i := 1318) (by decide +kernel))) rfl, tbG_in (List.mem_append_right _ (List.mem_of_getElem? (i := 9) (by decide +kernel))) rfl, tbG_in (List.mem_append_right _ (List.mem_of_getElem? (i := 1315) (by decide +kernel))) rfl⟩, ⟨by decide +kernel, by decide +kernel, by decide +kernel⟩, by decide⟩, tbG_in (List.mem_append_right _ (List.mem_of_getElem? (i := 1317) (by decide +kernel))) rfl, RX12, TX12, 58, rfl, tbG_in (List.mem_append_left _ (List.mem_of_getElem? (i := 47) (by decide +kernel))) rfl⟩
set_option maxHeartbeats 8000000 in
set_option maxRecDepth 4000 in
theorem bX12_pour_0 {d n : Nat} {dy : Nat → Shp} {g : Hp} {P : Pst} {x1 : Int} {x2 : Int} {x3 : Int} {x4 : Int} {x5 : Int} (hn : 100 ≤ n) (h : (i3 x1) ∧ ((x1 < 0) → V miX12_pour (d + 1) 30 [(0, .ref 53), (1, I_ x1), (2, I_ x2), (3, I_ x3), (4, I_ x4), (5, I_ x5)] [] n (W0 dy) (up2 (up2 g 53 1 0) 53 0 0) 0 0 P) ∧ ((0 ≤ x1) → ((6 ≤ x1) → V miX12_pour (d + 1) 30 [(0, .ref 53), (1, I_ x1), (2, I_ x2), (3, I_ x3), (4, I_ x4), (5, I_ x5)] [] n (W0 dy) (up2 (up2 g 53 1 0) 53 0 0) 0 0 P) ∧ ((x1 < 6) → (i3 x3) ∧ ((x3 < 0) → V miX12_pour (d + 1) 30 [(0, .ref 53), (1, I_ x1), (2, I_ x2), (3, I_ x3), (4, I_ x4), (5, I_ x5)] [] n (W0 dy) (up2 (up2 g 53 1 0) 53 0 0) 0 0 P) ∧ ((0 ≤ x3) → ((x3 < 6) → (0 ≤ x1 ∧ x1 < 6) ∧ (((g 55 x1.toNat) < 0) → V miX12_pour (d + 1) 54 [(0, .ref 53), (1, I_ x1), (2, I_ x2), (3, I_ x3), (4, I_ x4), (5, I_ x5)] [] n (W0 dy) (up2 (up2 g 53 1 0) 53 0 0) 0 0 P) ∧ ((0 ≤ (g 55 x1.toNat)) → (0 ≤ x3 ∧ x3 < 6) ∧ ((0 ≤ (g 55 x3.toNat)) → (((g 54 x1.toNat) = (g 54 x3.toNat)) → (i3 x5) ∧ ((0 ≤ x5) → (i3 x2) ∧ ((x2 < 0) → V miX12_pour (d + 1) 138 [(0, .ref 53), (1, I_ x1), (2, I_ x2), (3, I_ x3), (4, I_ x4), (5, I_ x5)] [] n (W0 dy) (up2 (up2 g 53 1 0) 53 0 0) 0 0 P) ∧ ((0 ≤ x2) → (i3 x4) ∧ ((x4 < 0) → V miX12_pour (d + 1) 138 [(0, .ref 53), (1, I_ x1), (2, I_ x2), (3, I_ x3), (4, I_ x4), (5, I_ x5)] [] n (W0 dy) (up2 (up2 g 53 1 0) 53 0 0) 0 0 P) ∧ ((0 ≤ x4) → (i6 (x2 + x5)) ∧ (((g 55 x1.toNat) < (x2 + x5)) → V miX12_pour (d + 1) 138 [(0, .ref 53), (1, I_ x1), (2, I_ x2), (3, I_ x3), (4, I_ x4), (5, I_ x5)] [] n (W0 dy) (up2 (up2 g 53 1 0) 53 0 0) 0 0 P) ∧ (((x2 + x5) ≤ (g 55 x1.toNat)) → (i6 (x4 + x5)) ∧ (((x4 + x5) ≤ (g 55 x3.toNat)) → ((x4 ≤ x2) → V miX12_pour (d + 1) 155 [(0, .ref 53), (1, I_ x1), (2, I_ x2), (3, I_ x3), (4, I_ x4), (5, I_ x5)] [I_ 0] n (W0 dy) (up2 (up2 g 53 1 0) 53 0 0) 0 0 P) ∧ ((x2 < x4) → V miX12_pour (d + 1) 155 [(0, .ref 53), (1, I_ x1), (2, I_ x2), (3, I_ x3), (4, I_ x4), (5, I_ x5)] [I_ 1] n (W0 dy) (up2 (up2 g 53 1 0) 53 0 0) 0 0 P)) ∧ (((g 55 x3.toNat) < (x4 + x5)) → V miX12_pour (d + 1) 138 [(0, .ref 53), (1, I_ x1), (2, I_ x2), (3, I_ x3), (4, I_ x4), (5, I_ x5)] [] n (W0 dy) (up2 (up2 g 53 1 0) 53 0 0) 0 0 P))))) ∧ ((x5 < 0) → Runs miX12_no d [.ref 53, I_ 6] n (W0 dy) (up2 (up2 g 53 1 0) 53 0 0) (fun v n' S' g' => V miX12_pour (d + 1) 93 [(0, .ref 53), (1, I_ x1), (2, I_ x2), (3, I_ x3), (4, I_ x4), (5, I_ x5)] (v.toList ++ []) n' S' g' 0 0 P))) ∧ (((g 54 x1.toNat) ≠ (g 54 x3.toNat)) → Runs miX12_no d [.ref 53, I_ 12] n (W0 dy) (up2 (up2 g 53 1 0) 53 0 0) (fun v n' S' g' => V miX12_pour (d + 1) 81 [(0, .ref 53), (1, I_ x1), (2, I_ x2), (3, I_ x3), (4, I_ x4), (5, I_ x5)] (v.toList ++ []) n' S' g' 0 0 P))) ∧ (((g 55 x3.toNat) < 0) → V miX12_pour (d + 1) 54 [(0, .ref 53), (1, I_ x1), (2, I_ x2), (3, I_ x3), (4, I_ x4), (5, I_ x5)] [] n (W0 dy) (up2 (up2 g 53 1 0) 53 0 0) 0 0 P))) ∧ ((6 ≤ x3) → V miX12_pour (d + 1) 30 [(0, .ref 53), (1, I_ x1), (2, I_ x2), (3, I_ x3), (4, I_ x4), (5, I_ x5)] [] n (W0 dy) (up2 (up2 g 53 1 0) 53 0 0) 0 0 P))))) : V miX12_pour (d + 1) 0 [(0, .ref 53), (1, I_ x1), (2, I_ x2), (3, I_ x3), (4, I_ x4), (5, I_ x5)] [] n (W0 dy) g 0 0 P := by
  refine v_aload_n 0 0 rfl rfl rfl ?_
  refine v_iconst 1 rfl ?_
  refine v_putI 2 rfl fl12_148_11 (al 53 rfl hn) (wk53 dy) (by decide) rfl (wc53_1 dy) (by decide) ?_
  refine v_aload_n 3 0 rfl rfl rfl ?_
  refine v_iconst 4 rfl ?_
  refine v_putI 5 rfl fl12_152_11 (al 53 rfl hn) (wk53 dy) (by decide) rfl (wc53_0 dy) (by decide) ?_
  refine v_iload_n 6 1 rfl rfl rfl ?_
  have c1 := h.1
  have h := h.2
  refine v_if_lt 7 rfl (tgt := 30) rfl c1 (fun q34 => ?_) (fun q34 => ?_)
  · have h := h.1 q34
    exact h
  · have h := h.2 q34
    refine v_iload_n 8 1 rfl rfl rfl ?_
    refine v_bipush 9 rfl (by decide) ?_
    refine v_icmp_ge 10 rfl (tgt := 30) rfl c1 (by decide) (fun q33 => ?_) (fun q33 => ?_)
    · have h := h.1 q33
      exact h
    · have h := h.2 q33
      refine v_iload_n 11 3 rfl rfl rfl ?_
      have c2 := h.1
      have h := h.2
      refine v_if_lt 12 rfl (tgt := 30) rfl c2 (fun q32 => ?_) (fun q32 => ?_)
      · have h := h.1 q32
        exact h
      · have h := h.2 q32
        refine v_iload_n 13 3 rfl rfl rfl ?_
        refine v_bipush 14 rfl (by decide) ?_
        refine v_icmp_lt 15 rfl (tgt := 36) rfl c2 (by decide) (fun q31 => ?_) (fun q31 => ?_)
        · have h := h.1 q31
          refine v_aload_n 20 0 rfl rfl rfl ?_
          refine v_gK 21 rfl fl12_13_11.r (al 53 rfl hn) (wk53 dy) (by decide) rfl (r := 55) (wc53_3 dy) ?_
          refine v_iload_n 22 1 rfl rfl rfl ?_
          have c3 := h.1
          have h := h.2
          refine v_ia (N := 6) 23 rfl (al 55 rfl hn) (wk55 dy) (wn55 dy) (by decide) c3 (y := g 55 x1.toNat) rfl ?_
          refine v_rng fun w4 => ?_
          have r5 : i3 (g 55 x1.toNat) := rI w4 (q := x1.toNat) (al 55 rfl hn) (wk55 dy) rfl rfl
          refine v_if_lt 24 rfl (tgt := 54) rfl r5 (fun q30 => ?_) (fun q30 => ?_)
          · have h := h.1 q30
            exact h
          · have h := h.2 q30
            refine v_aload_n 25 0 rfl rfl rfl ?_
            refine v_gK 26 rfl fl12_13_11.r (al 53 rfl hn) (wk53 dy) (by decide) rfl (r := 55) (wc53_3 dy) ?_
            refine v_iload_n 27 3 rfl rfl rfl ?_
            have c6 := h.1
            have h := h.2
            refine v_ia (N := 6) 28 rfl (al 55 rfl hn) (wk55 dy) (wn55 dy) (by decide) c6 (y := g 55 x3.toNat) rfl ?_
            refine v_rng fun w7 => ?_
            have r8 : i3 (g 55 x3.toNat) := rI w7 (q := x3.toNat) (al 55 rfl hn) (wk55 dy) rfl rfl
            refine v_if_ge 29 rfl (tgt := 60) rfl r8 (fun q29 => ?_) (fun q29 => ?_)
            · have h := h.1 q29
              refine v_aload_n 34 0 rfl rfl rfl ?_
              refine v_gK 35 rfl fl12_7_11.r (al 53 rfl hn) (wk53 dy) (by decide) rfl (r := 54) (wc53_2 dy) ?_
              refine v_iload_n 36 1 rfl rfl rfl ?_
              refine v_ia (N := 6) 37 rfl (al 54 rfl hn) (wk54 dy) (wn54 dy) (by decide) c3 (y := g 54 x1.toNat) rfl ?_
              refine v_rng fun w9 => ?_
              have r10 : i3 (g 54 x1.toNat) := rI w9 (q := x1.toNat) (al 54 rfl hn) (wk54 dy) rfl rfl
              refine v_aload_n 38 0 rfl rfl rfl ?_
              refine v_gK 39 rfl fl12_7_11.r (al 53 rfl hn) (wk53 dy) (by decide) rfl (r := 54) (wc53_2 dy) ?_
              refine v_iload_n 40 3 rfl rfl rfl ?_
              refine v_ia (N := 6) 41 rfl (al 54 rfl hn) (wk54 dy) (wn54 dy) (by decide) c6 (y := g 54 x3.toNat) rfl ?_
              refine v_rng fun w11 => ?_
              have r12 : i3 (g 54 x3.toNat) := rI w11 (q := x3.toNat) (al 54 rfl hn) (wk54 dy) rfl rfl
              refine v_icmp_eq 42 rfl (tgt := 82) rfl r10 r12 (fun q28 => ?_) (fun q28 => ?_)
              · have h := h.1 q28
                refine v_iload 47 5 rfl rfl ?_
                have c13 := h.1
                have h := h.2
                refine v_if_ge 48 rfl (tgt := 94) rfl c13 (fun q27 => ?_) (fun q27 => ?_)
                · have h := h.1 q27
                  refine v_iload_n 53 2 rfl rfl rfl ?_
                  have c14 := h.1
                  have h := h.2
                  refine v_if_lt 54 rfl (tgt := 138) rfl c14 (fun q26 => ?_) (fun q26 => ?_)
                  · have h := h.1 q26
                    exact h
                  · have h := h.2 q26
                    refine v_iload 55 4 rfl rfl ?_
                    have c15 := h.1
                    have h := h.2
                    refine v_if_lt 56 rfl (tgt := 138) rfl c15 (fun q25 => ?_) (fun q25 => ?_)
                    · have h := h.1 q25
                      exact h
                    · have h := h.2 q25
                      refine v_iload_n 57 2 rfl rfl rfl ?_
                      refine v_i2l 58 rfl c14 ?_
                      refine v_iload 59 5 rfl rfl ?_
                      refine v_i2l 60 rfl c13 ?_
                      refine v_ladd 61 rfl ?_
                      refine v_aload_n 62 0 rfl rfl rfl ?_
                      refine v_gK 63 rfl fl12_13_11.r (al 53 rfl hn) (wk53 dy) (by decide) rfl (r := 55) (wc53_3 dy) ?_
                      refine v_iload_n 64 1 rfl rfl rfl ?_
                      refine v_ia (N := 6) 65 rfl (al 55 rfl hn) (wk55 dy) (wn55 dy) (by decide) c3 (y := g 55 x1.toNat) rfl ?_
                      refine v_rng fun w16 => ?_
                      have r17 : i3 (g 55 x1.toNat) := rI w16 (q := x1.toNat) (al 55 rfl hn) (wk55 dy) rfl rfl
                      refine v_i2l 66 rfl r17 ?_
                      have c18 := h.1
                      have h := h.2
                      refine v_lif_gt 67 rfl rfl (tgt := 138) rfl c18 (i36 r17) (fun q24 => ?_) (fun q24 => ?_)
                      · have h := h.1 q24
                        exact h
                      · have h := h.2 q24
                        refine v_iload 69 4 rfl rfl ?_
                        refine v_i2l 70 rfl c15 ?_
                        refine v_iload 71 5 rfl rfl ?_
                        refine v_i2l 72 rfl c13 ?_
                        refine v_ladd 73 rfl ?_
                        refine v_aload_n 74 0 rfl rfl rfl ?_
                        refine v_gK 75 rfl fl12_13_11.r (al 53 rfl hn) (wk53 dy) (by decide) rfl (r := 55) (wc53_3 dy) ?_
                        refine v_iload_n 76 3 rfl rfl rfl ?_
                        refine v_ia (N := 6) 77 rfl (al 55 rfl hn) (wk55 dy) (wn55 dy) (by decide) c6 (y := g 55 x3.toNat) rfl ?_
                        refine v_rng fun w19 => ?_
                        have r20 : i3 (g 55 x3.toNat) := rI w19 (q := x3.toNat) (al 55 rfl hn) (wk55 dy) rfl rfl
                        refine v_i2l 78 rfl r20 ?_
                        have c21 := h.1
                        have h := h.2
                        refine v_lif_le 79 rfl rfl (tgt := 144) rfl c21 (i36 r20) (fun q23 => ?_) (fun q23 => ?_)
                        · have h := h.1 q23
                          refine v_iload_n 85 2 rfl rfl rfl ?_
                          refine v_iload 86 4 rfl rfl ?_
                          refine v_icmp_ge 87 rfl (tgt := 154) rfl c14 c15 (fun q22 => ?_) (fun q22 => ?_)
                          · have h := h.1 q22
                            refine v_iconst 90 rfl ?_
                            exact h
                          · have h := h.2 q22
                            refine v_iconst 88 rfl ?_
                            refine v_goto 89 rfl (tgt := 155) rfl ?_
                            exact h
                        · have h := h.2 q23
                          exact h
                · have h := h.2 q27
                  refine v_aload_n 49 0 rfl rfl rfl ?_
                  refine v_bipush 50 rfl (by decide) ?_
                  refine v_callV (st := []) [I_ 6] 51 rfl lv12_155_pour_11 (al 53 rfl hn) (wk53 dy) (by decide) rfl (Nat.le_refl _) (Nat.le_refl _) ?_
                  exact h
              · have h := h.2 q28
                refine v_aload_n 43 0 rfl rfl rfl ?_
                refine v_bipush 44 rfl (by decide) ?_
                refine v_callV (st := []) [I_ 12] 45 rfl lv12_155_pour_11 (al 53 rfl hn) (wk53 dy) (by decide) rfl (Nat.le_refl _) (Nat.le_refl _) ?_
                exact h
            · have h := h.2 q29
              exact h
        · have h := h.2 q31
          exact h
set_option maxHeartbeats 8000000 in
set_option maxRecDepth 4000 in
theorem bX12_pour_30 {d n : Nat} {dy : Nat → Shp} {g : Hp} {P : Pst} {x1 : Int} {x2 : Int} {x3 : Int} {x4 : Int} {x5 : Int} (hn : 100 ≤ n) (h : Runs miX12_no d [.ref 53, I_ 1] n (W0 dy) g (fun v n' S' g' => V miX12_pour (d + 1) 35 [(0, .ref 53), (1, I_ x1), (2, I_ x2), (3, I_ x3), (4, I_ x4), (5, I_ x5)] (v.toList ++ []) n' S' g' 0 0 P)) : V miX12_pour (d + 1) 30 [(0, .ref 53), (1, I_ x1), (2, I_ x2), (3, I_ x3), (4, I_ x4), (5, I_ x5)] [] n (W0 dy) g 0 0 P := by
  refine v_aload_n 16 0 rfl rfl rfl ?_
  refine v_iconst 17 rfl ?_
  refine v_callV (st := []) [I_ 1] 18 rfl lv12_155_pour_11 (al 53 rfl hn) (wk53 dy) (by decide) rfl (Nat.le_refl _) (Nat.le_refl _) ?_
  exact h
set_option maxHeartbeats 8000000 in
set_option maxRecDepth 4000 in
theorem bX12_pour_35 {d n : Nat} {dy : Nat → Shp} {g : Hp} {P : Pst} {x1 : Int} {x2 : Int} {x3 : Int} {x4 : Int} {x5 : Int} {xs0 : Int} (hn : 100 ≤ n) (h : (xs0 = 0 ∨ xs0 = 1) ∧ P (some (I_ xs0)) n (W0 dy) g) : V miX12_pour (d + 1) 35 [(0, .ref 53), (1, I_ x1), (2, I_ x2), (3, I_ x3), (4, I_ x4), (5, I_ x5)] [I_ xs0] n (W0 dy) g 0 0 P := by
  have c1 := h.1
  have h := h.2
  exact v_ret (v := some (I_ xs0)) 19 rfl (Nat.zero_le _) (Nat.zero_le _) (rokZ c1) rfl h
set_option maxHeartbeats 8000000 in
set_option maxRecDepth 4000 in
theorem bX12_pour_54 {d n : Nat} {dy : Nat → Shp} {g : Hp} {P : Pst} {x1 : Int} {x2 : Int} {x3 : Int} {x4 : Int} {x5 : Int} (hn : 100 ≤ n) (h : Runs miX12_no d [.ref 53, I_ 3] n (W0 dy) g (fun v n' S' g' => V miX12_pour (d + 1) 59 [(0, .ref 53), (1, I_ x1), (2, I_ x2), (3, I_ x3), (4, I_ x4), (5, I_ x5)] (v.toList ++ []) n' S' g' 0 0 P)) : V miX12_pour (d + 1) 54 [(0, .ref 53), (1, I_ x1), (2, I_ x2), (3, I_ x3), (4, I_ x4), (5, I_ x5)] [] n (W0 dy) g 0 0 P := by
  refine v_aload_n 30 0 rfl rfl rfl ?_
  refine v_iconst 31 rfl ?_
  refine v_callV (st := []) [I_ 3] 32 rfl lv12_155_pour_11 (al 53 rfl hn) (wk53 dy) (by decide) rfl (Nat.le_refl _) (Nat.le_refl _) ?_
  exact h
set_option maxHeartbeats 8000000 in
set_option maxRecDepth 4000 in
theorem bX12_pour_59 {d n : Nat} {dy : Nat → Shp} {g : Hp} {P : Pst} {x1 : Int} {x2 : Int} {x3 : Int} {x4 : Int} {x5 : Int} {xs0 : Int} (hn : 100 ≤ n) (h : (xs0 = 0 ∨ xs0 = 1) ∧ P (some (I_ xs0)) n (W0 dy) g) : V miX12_pour (d + 1) 59 [(0, .ref 53), (1, I_ x1), (2, I_ x2), (3, I_ x3), (4, I_ x4), (5, I_ x5)] [I_ xs0] n (W0 dy) g 0 0 P := by
  have c1 := h.1
  have h := h.2
  exact v_ret (v := some (I_ xs0)) 33 rfl (Nat.zero_le _) (Nat.zero_le _) (rokZ c1) rfl h
set_option maxHeartbeats 8000000 in
set_option maxRecDepth 4000 in
theorem bX12_pour_81 {d n : Nat} {dy : Nat → Shp} {g : Hp} {P : Pst} {x1 : Int} {x2 : Int} {x3 : Int} {x4 : Int} {x5 : Int} {xs0 : Int} (hn : 100 ≤ n) (h : (xs0 = 0 ∨ xs0 = 1) ∧ P (some (I_ xs0)) n (W0 dy) g) : V miX12_pour (d + 1) 81 [(0, .ref 53), (1, I_ x1), (2, I_ x2), (3, I_ x3), (4, I_ x4), (5, I_ x5)] [I_ xs0] n (W0 dy) g 0 0 P := by
  have c1 := h.1
  have h := h.2
  exact v_ret (v := some (I_ xs0)) 46 rfl (Nat.zero_le _) (Nat.zero_le _) (rokZ c1) rfl h
set_option maxHeartbeats 8000000 in
set_option maxRecDepth 4000 in
theorem bX12_pour_93 {d n : Nat} {dy : Nat → Shp} {g : Hp} {P : Pst} {x1 : Int} {x2 : Int} {x3 : Int} {x4 : Int} {x5 : Int} {xs0 : Int} (hn : 100 ≤ n) (h : (xs0 = 0 ∨ xs0 = 1) ∧ P (some (I_ xs0)) n (W0 dy) g) : V miX12_pour (d + 1) 93 [(0, .ref 53), (1, I_ x1), (2, I_ x2), (3, I_ x3), (4, I_ x4), (5, I_ x5)] [I_ xs0] n (W0 dy) g 0 0 P := by
  have c1 := h.1
  have h := h.2
  exact v_ret (v := some (I_ xs0)) 52 rfl (Nat.zero_le _) (Nat.zero_le _) (rokZ c1) rfl h
set_option maxHeartbeats 8000000 in
set_option maxRecDepth 4000 in
theorem bX12_pour_138 {d n : Nat} {dy : Nat → Shp} {g : Hp} {P : Pst} {x1 : Int} {x2 : Int} {x3 : Int} {x4 : Int} {x5 : Int} (hn : 100 ≤ n) (h : Runs miX12_no d [.ref 53, I_ 4] n (W0 dy) g (fun v n' S' g' => V miX12_pour (d + 1) 143 [(0, .ref 53), (1, I_ x1), (2, I_ x2), (3, I_ x3), (4, I_ x4), (5, I_ x5)] (v.toList ++ []) n' S' g' 0 0 P)) : V miX12_pour (d + 1) 138 [(0, .ref 53), (1, I_ x1), (2, I_ x2), (3, I_ x3), (4, I_ x4), (5, I_ x5)] [] n (W0 dy) g 0 0 P := by
  refine v_aload_n 81 0 rfl rfl rfl ?_
  refine v_iconst 82 rfl ?_
  refine v_callV (st := []) [I_ 4] 83 rfl lv12_155_pour_11 (al 53 rfl hn) (wk53 dy) (by decide) rfl (Nat.le_refl _) (Nat.le_refl _) ?_
  exact h
set_option maxHeartbeats 8000000 in
set_option maxRecDepth 4000 in
theorem bX12_pour_143 {d n : Nat} {dy : Nat → Shp} {g : Hp} {P : Pst} {x1 : Int} {x2 : Int} {x3 : Int} {x4 : Int} {x5 : Int} {xs0 : Int} (hn : 100 ≤ n) (h : (xs0 = 0 ∨ xs0 = 1) ∧ P (some (I_ xs0)) n (W0 dy) g) : V miX12_pour (d + 1) 143 [(0, .ref 53), (1, I_ x1), (2, I_ x2), (3, I_ x3), (4, I_ x4), (5, I_ x5)] [I_ xs0] n (W0 dy) g 0 0 P := by
  have c1 := h.1
  have h := h.2
  exact v_ret (v := some (I_ xs0)) 84 rfl (Nat.zero_le _) (Nat.zero_le _) (rokZ c1) rfl h
set_option maxHeartbeats 8000000 in
set_option maxRecDepth 4000 in
theorem bX12_pour_155 {d n : Nat} {dy : Nat → Shp} {g : Hp} {P : Pst} {x1 : Int} {x2 : Int} {x3 : Int} {x4 : Int} {x5 : Int} {xs0 : Int} (hn : 100 ≤ n) (h : V miX12_pour (d + 1) 160 [(0, .ref 53), (1, I_ x1), (2, I_ x2), (3, I_ x3), (4, I_ x4), (5, I_ x5), (6, I_ xs0), (7, I_ 0)] [] n (W0 dy) g 0 0 P) : V miX12_pour (d + 1) 155 [(0, .ref 53), (1, I_ x1), (2, I_ x2), (3, I_ x3), (4, I_ x4), (5, I_ x5)] [I_ xs0] n (W0 dy) g 0 0 P := by
  refine v_istore 91 [1, 2, 3, 4, 5, 6, 0] rfl (by decide) rfl ?_
  refine v_iconst 92 rfl ?_
  refine v_istore 93 [1, 2, 3, 4, 5, 6, 7, 0] rfl (by decide) rfl ?_
  exact h
set_option maxHeartbeats 8000000 in
set_option maxRecDepth 4000 in
theorem bX12_pour_160 {d n : Nat} {dy : Nat → Shp} {g : Hp} {P : Pst} {x1 : Int} {x2 : Int} {x3 : Int} {x4 : Int} {x5 : Int} {x6 : Int} {x7 : Int} (hn : 100 ≤ n) (h : (i3 x7) ∧ (i3 x5) ∧ ((x5 ≤ x7) → P (some (I_ 1)) n (W0 dy) g) ∧ ((x7 < x5) → (i3 x6) ∧ ((x6 = 0) → V miX12_pour (d + 1) 184 [(0, .ref 53), (1, I_ x1), (2, I_ x2), (3, I_ x3), (4, I_ x4), (5, I_ x5), (6, I_ x6), (7, I_ x7)] [I_ x7] n (W0 dy) g 0 0 P) ∧ ((x6 ≠ 0) → V miX12_pour (d + 1) 184 [(0, .ref 53), (1, I_ x1), (2, I_ x2), (3, I_ x3), (4, I_ x4), (5, I_ x5), (6, I_ x6), (7, I_ x7)] [I_ ((x5 - 1) - x7)] n (W0 dy) g 0 0 P))) : V miX12_pour (d + 1) 160 [(0, .ref 53), (1, I_ x1), (2, I_ x2), (3, I_ x3), (4, I_ x4), (5, I_ x5), (6, I_ x6), (7, I_ x7)] [] n (W0 dy) g 0 0 P := by
  refine v_iload 94 7 rfl rfl ?_
  refine v_iload 95 5 rfl rfl ?_
  have c1 := h.1
  have h := h.2
  have c2 := h.1
  have h := h.2
  refine v_icmp_ge 96 rfl (tgt := 221) rfl c1 c2 (fun q5 => ?_) (fun q5 => ?_)
  · have h := h.1 q5
    refine v_iconst 129 rfl ?_
    exact v_ret (v := some (I_ 1)) 130 rfl (Nat.zero_le _) (Nat.zero_le _) (Or.inr rfl) rfl h
  · have h := h.2 q5
    refine v_iload 97 6 rfl rfl ?_
    have c3 := h.1
    have h := h.2
    refine v_if_eq 98 rfl (tgt := 182) rfl c3 (fun q4 => ?_) (fun q4 => ?_)
    · have h := h.1 q4
      refine v_iload 105 7 rfl rfl ?_
      exact h
    · have h := h.2 q4
      refine v_iload 99 5 rfl rfl ?_
      refine v_iconst 100 rfl ?_
      refine v_isub 101 rfl ?_
      refine v_iload 102 7 rfl rfl ?_
      refine v_isub 103 rfl ?_
      refine v_goto 104 rfl (tgt := 184) rfl ?_
      exact h
set_option maxHeartbeats 8000000 in
set_option maxRecDepth 4000 in
theorem bX12_pour_184 {d n : Nat} {dy : Nat → Shp} {g : Hp} {P : Pst} {x1 : Int} {x2 : Int} {x3 : Int} {x4 : Int} {x5 : Int} {x6 : Int} {x7 : Int} {xs0 : Int} (hn : 100 ≤ n) (h : (0 ≤ ((16 * x1) + x2) + xs0 ∧ ((16 * x1) + x2) + xs0 < 96) ∧ (0 ≤ ((16 * x3) + x4) + xs0 ∧ ((16 * x3) + x4) + xs0 < 96) ∧ V miX12_pour (d + 1) 160 [(0, .ref 53), (1, I_ x1), (2, I_ x2), (3, I_ x3), (4, I_ x4), (5, I_ x5), (6, I_ x6), (7, I_ (x7 + 1))] [] n (W0 dy) (up2 g 56 ((((16 * x3) + x4) + xs0).toNat) (g 56 ((((16 * x1) + x2) + xs0).toNat))) 0 0 P) : V miX12_pour (d + 1) 184 [(0, .ref 53), (1, I_ x1), (2, I_ x2), (3, I_ x3), (4, I_ x4), (5, I_ x5), (6, I_ x6), (7, I_ x7)] [I_ xs0] n (W0 dy) g 0 0 P := by
  refine v_istore 106 [1, 2, 3, 4, 5, 6, 7, 8, 0] rfl (by decide) rfl ?_
  refine v_aload_n 107 0 rfl rfl rfl ?_
  refine v_gK 108 rfl fl12_16_11.r (al 53 rfl hn) (wk53 dy) (by decide) rfl (r := 56) (wc53_4 dy) ?_
  refine v_bipush 109 rfl (by decide) ?_
  refine v_iload_n 110 3 rfl rfl rfl ?_
  refine v_imul 111 rfl ?_
  refine v_iload 112 4 rfl rfl ?_
  refine v_iadd 113 rfl ?_
  refine v_iload 114 8 rfl rfl ?_
  refine v_iadd 115 rfl ?_
  refine v_aload_n 116 0 rfl rfl rfl ?_
  refine v_gK 117 rfl fl12_16_11.r (al 53 rfl hn) (wk53 dy) (by decide) rfl (r := 56) (wc53_4 dy) ?_
  refine v_bipush 118 rfl (by decide) ?_
  refine v_iload_n 119 1 rfl rfl rfl ?_
  refine v_imul 120 rfl ?_
  refine v_iload_n 121 2 rfl rfl rfl ?_
  refine v_iadd 122 rfl ?_
  refine v_iload 123 8 rfl rfl ?_
  refine v_iadd 124 rfl ?_
  have c1 := h.1
  have h := h.2
  refine v_la (N := 96) 125 rfl (al 56 rfl hn) (wk56 dy) (wn56 dy) (by decide) c1 (y := g 56 ((((16 * x1) + x2) + xs0).toNat)) rfl ?_
  refine v_rng fun w2 => ?_
  have r3 : i6 (g 56 ((((16 * x1) + x2) + xs0).toNat)) := rL w2 (q := ((((16 * x1) + x2) + xs0).toNat)) (al 56 rfl hn) (wk56 dy) rfl rfl
  have c4 := h.1
  have h := h.2
  refine v_last (N := 96) 126 rfl (al 56 rfl hn) (wk56 dy) (wn56 dy) (by decide) c4 r3 ?_
  refine v_iinc 127 7 [1, 2, 3, 4, 5, 6, 7, 0, 8] rfl rfl (by decide) rfl ?_
  refine v_goto 128 rfl (tgt := 160) rfl ?_
  refine v_loc [0, 1, 2, 3, 4, 5, 6, 7] rfl ?_
  exact h
theorem fl12_169_11 : FL RX12 169 11 5 false .int := ⟨RX12, TX12, 58, "MobileMakerModel", rfl, rfl, by decide, kf11, tbG_in (List.mem_append_right _ (List.mem_of_getElem? (i := 1132) (by decide +kernel))) rfl, Or.inl rfl, rfl, by decide +kernel, ⟨tyX12, tyX12_ok⟩, nmX12, fun h => by cases h⟩
theorem fl12_20_11 : FL RX12 20 11 6 true (.array .int) := ⟨RX12, TX12, 58, "MobileMakerModel", rfl, rfl, by decide, kf11, tbG_in (List.mem_append_right _ (List.mem_of_getElem? (i := 1133) (by decide +kernel))) rfl, Or.inl rfl, rfl, by decide +kernel, ⟨tyX12, tyX12_ok⟩, nmX12, fun _ => rfl⟩
theorem fl12_38_11 : FL RX12 38 11 12 true (.array .long) := ⟨RX12, TX12, 58, "MobileMakerModel", rfl, rfl, by decide, kf11, tbG_in (List.mem_append_right _ (List.mem_of_getElem? (i := 1139) (by decide +kernel))) rfl, Or.inl rfl, rfl, by decide +kernel, ⟨tyX12, tyX12_ok⟩, nmX12, fun _ => rfl⟩
theorem fl12_29_11 : FL RX12 29 11 9 true (.array .int) := ⟨RX12, TX12, 58, "MobileMakerModel", rfl, rfl, by decide, kf11, tbG_in (List.mem_append_right _ (List.mem_of_getElem? (i := 1136) (by decide +kernel))) rfl, Or.inl rfl, rfl, by decide +kernel, ⟨tyX12, tyX12_ok⟩, nmX12, fun _ => rfl⟩
theorem fl12_32_11 : FL RX12 32 11 10 true (.array .int) := ⟨RX12, TX12, 58, "MobileMakerModel", rfl, rfl, by decide, kf11, tbG_in (List.mem_append_right _ (List.mem_of_getElem? (i := 1137) (by decide +kernel))) rfl, Or.inl rfl, rfl, by decide +kernel, ⟨tyX12, tyX12_ok⟩, nmX12, fun _ => rfl⟩
theorem fl12_35_11 : FL RX12 35 11 11 true (.array .int) := ⟨RX12, TX12, 58, "MobileMakerModel", rfl, rfl, by decide, kf11, tbG_in (List.mem_append_right _ (List.mem_of_getElem? (i := 1138) (by decide +kernel))) rfl, Or.inl rfl, rfl, by decide +kernel, ⟨tyX12, tyX12_ok⟩, nmX12, fun _ => rfl⟩
theorem fl12_47_11 : FL RX12 47 11 15 true (.array .int) := ⟨RX12, TX12, 58, "MobileMakerModel", rfl, rfl, by decide, kf11, tbG_in (List.mem_append_right _ (List.mem_of_getElem? (i := 1142) (by decide +kernel))) rfl, Or.inl rfl, rfl, by decide +kernel, ⟨tyX12, tyX12_ok⟩, nmX12, fun _ => rfl⟩
theorem fl12_50_11 : FL RX12 50 11 16 true (.array .int) := ⟨RX12, TX12, 58, "MobileMakerModel", rfl, rfl, by decide, kf11, tbG_in (List.mem_append_right _ (List.mem_of_getElem? (i := 1143) (by decide +kernel))) rfl, Or.inl rfl, rfl, by decide +kernel, ⟨tyX12, tyX12_ok⟩, nmX12, fun _ => rfl⟩
set_option maxHeartbeats 8000000 in
set_option maxRecDepth 4000 in
theorem bX12_newPart_0 {d n : Nat} {dy : Nat → Shp} {g : Hp} {P : Pst} {x1 : Int} {x2 : Int} (hn : 100 ≤ n) (h : (0 ≤ g 53 5 ∧ g 53 5 < 60) ∧ (i3 x1) ∧ (i6 x2) ∧ (i3 ((g 53 5) + 1)) ∧ P (some (I_ (g 53 5))) n (W0 dy) (up2 (up2 (up2 (up2 (up2 (up2 (up2 (up2 g 57 ((g 53 5).toNat) x1) 63 ((g 53 5).toNat) x2) 60 ((g 53 5).toNat) ((-1))) 61 ((g 53 5).toNat) ((-1))) 62 ((g 53 5).toNat) 0) 66 ((g 53 5).toNat) ((-1))) 67 ((g 53 5).toNat) ((-1))) 53 5 ((g 53 5) + 1))) : V miX12_newPart d 0 [(0, .ref 53), (1, I_ x1), (2, L_ x2)] [] n (W0 dy) g 0 0 P := by
  refine v_aload_n 0 0 rfl rfl rfl ?_
  refine v_gI 1 rfl fl12_169_11.r (al 53 rfl hn) (wk53 dy) (by decide) rfl (wc53_5 dy) (x := g 53 5) rfl ?_
  refine v_rng fun w1 => ?_
  have r2 : i3 (g 53 5) := rI w1 (q := 5) (al 53 rfl hn) (wk53 dy) rfl rfl
  refine v_istore 2 [1, 2, 3, 0] rfl (by decide) rfl ?_
  refine v_aload_n 3 0 rfl rfl rfl ?_
  refine v_gK 4 rfl fl12_20_11.r (al 53 rfl hn) (wk53 dy) (by decide) rfl (r := 57) (wc53_6 dy) ?_
  refine v_iload 5 3 rfl rfl ?_
  refine v_iload_n 6 1 rfl rfl rfl ?_
  have c3 := h.1
  have h := h.2
  have c4 := h.1
  have h := h.2
  refine v_iast (N := 60) 7 rfl (al 57 rfl hn) (wk57 dy) (wn57 dy) (by decide) c3 c4 ?_
  refine v_aload_n 8 0 rfl rfl rfl ?_
  refine v_gK 9 rfl fl12_38_11.r (al 53 rfl hn) (wk53 dy) (by decide) rfl (r := 63) (wc53_12 dy) ?_
  refine v_iload 10 3 rfl rfl ?_
  refine v_lload_n 11 2 rfl rfl rfl ?_
  have c5 := h.1
  have h := h.2
  refine v_last (N := 60) 12 rfl (al 63 rfl hn) (wk63 dy) (wn63 dy) (by decide) c3 c5 ?_
  refine v_aload_n 13 0 rfl rfl rfl ?_
  refine v_gK 14 rfl fl12_29_11.r (al 53 rfl hn) (wk53 dy) (by decide) rfl (r := 60) (wc53_9 dy) ?_
  refine v_iload 15 3 rfl rfl ?_
  refine v_iconst 16 rfl ?_
  refine v_iast (N := 60) 17 rfl (al 60 rfl hn) (wk60 dy) (wn60 dy) (by decide) c3 (by decide) ?_
  refine v_aload_n 18 0 rfl rfl rfl ?_
  refine v_gK 19 rfl fl12_32_11.r (al 53 rfl hn) (wk53 dy) (by decide) rfl (r := 61) (wc53_10 dy) ?_
  refine v_iload 20 3 rfl rfl ?_
  refine v_iconst 21 rfl ?_
  refine v_iast (N := 60) 22 rfl (al 61 rfl hn) (wk61 dy) (wn61 dy) (by decide) c3 (by decide) ?_
  refine v_aload_n 23 0 rfl rfl rfl ?_
  refine v_gK 24 rfl fl12_35_11.r (al 53 rfl hn) (wk53 dy) (by decide) rfl (r := 62) (wc53_11 dy) ?_
  refine v_iload 25 3 rfl rfl ?_
  refine v_iconst 26 rfl ?_
  refine v_iast (N := 60) 27 rfl (al 62 rfl hn) (wk62 dy) (wn62 dy) (by decide) c3 (by decide) ?_
  refine v_aload_n 28 0 rfl rfl rfl ?_
  refine v_gK 29 rfl fl12_47_11.r (al 53 rfl hn) (wk53 dy) (by decide) rfl (r := 66) (wc53_15 dy) ?_
  refine v_iload 30 3 rfl rfl ?_
  refine v_iconst 31 rfl ?_
  refine v_iast (N := 60) 32 rfl (al 66 rfl hn) (wk66 dy) (wn66 dy) (by decide) c3 (by decide) ?_
  refine v_aload_n 33 0 rfl rfl rfl ?_
  refine v_gK 34 rfl fl12_50_11.r (al 53 rfl hn) (wk53 dy) (by decide) rfl (r := 67) (wc53_16 dy) ?_
  refine v_iload 35 3 rfl rfl ?_
  refine v_iconst 36 rfl ?_
  refine v_iast (N := 60) 37 rfl (al 67 rfl hn) (wk67 dy) (wn67 dy) (by decide) c3 (by decide) ?_
  refine v_aload_n 38 0 rfl rfl rfl ?_
  refine v_dup 39 rfl (by intro h; cases h) ?_
  refine v_gI 40 rfl fl12_169_11.r (al 53 rfl hn) (wk53 dy) (by decide) rfl (wc53_5 dy) (x := g 53 5) rfl ?_
  refine v_rng fun w6 => ?_
  have r7 : i3 (g 53 5) := rI w6 (q := 5) (al 53 rfl hn) (wk53 dy) rfl rfl
  refine v_iconst 41 rfl ?_
  refine v_iadd 42 rfl ?_
  have c8 := h.1
  have h := h.2
  refine v_putI 43 rfl fl12_169_11 (al 53 rfl hn) (wk53 dy) (by decide) rfl (wc53_5 dy) c8 ?_
  refine v_iload 44 3 rfl rfl ?_
  exact v_ret (v := some (I_ (g 53 5))) 45 rfl (Nat.zero_le _) (Nat.zero_le _) trivial rfl h
theorem lv12_178_newWeight_11 : LkV miX12_newWeight miX12_newPart 178 2 11 := ⟨⟨⟨tbG_in (List.mem_append_right _ (List.mem_of_getElem? (i := 1355) (by decide +kernel))) rfl, tbG_in (List.mem_append_right _ (List.mem_of_getElem? (i := 9) (by decide +kernel))) rfl, tbG_in (List.mem_append_right _ (List.mem_of_getElem? (i := 1352) (by decide +kernel))) rfl⟩, ⟨by decide +kernel, by decide +kernel, by decide +kernel⟩, by decide⟩, tbG_in (List.mem_append_right _ (List.mem_of_getElem? (i := 1354) (by decide +kernel))) rfl, RX12, TX12, 58, rfl, tbG_in (List.mem_append_left _ (List.mem_of_getElem? (i := 51) (by decide +kernel))) rfl⟩
theorem lv12_174_newWeight_11 : LkV miX12_newWeight miX12_refuse 174 1 11 := ⟨⟨⟨tbG_in (List.mem_append_right _ (List.mem_of_getElem? (i := 1351) (by decide +kernel))) rfl, tbG_in (List.mem_append_right _ (List.mem_of_getElem? (i := 9) (by decide +kernel))) rfl, tbG_in (List.mem_append_right _ (List.mem_of_getElem? (i := 1348) (by decide +kernel))) rfl⟩, ⟨by decide +kernel, by decide +kernel, by decide +kernel⟩, by decide⟩, tbG_in (List.mem_append_right _ (List.mem_of_getElem? (i := 1350) (by decide +kernel))) rfl, RX12, TX12, 58, rfl, tbG_in (List.mem_append_left _ (List.mem_of_getElem? (i := 50) (by decide +kernel))) rfl⟩
set_option maxHeartbeats 8000000 in
set_option maxRecDepth 4000 in
theorem bX12_newWeight_0 {d n : Nat} {dy : Nat → Shp} {g : Hp} {P : Pst} {x1 : Int} (hn : 100 ≤ n) (h : (i6 x1) ∧ ((x1 < 1) → V miX12_newWeight (d + 1) 14 [(0, .ref 53), (1, L_ x1)] [] n (W0 dy) g 0 0 P) ∧ ((1 ≤ x1) → ((x1 ≤ 1000000) → (((g 53 5) ≠ 60) → Runs miX12_newPart d [.ref 53, I_ 1, L_ x1] n (W0 dy) g (fun v n' S' g' => V miX12_newWeight (d + 1) 45 [(0, .ref 53), (1, L_ x1)] (v.toList ++ []) n' S' g' 0 0 P)) ∧ (((g 53 5) = 60) → Runs miX12_refuse d [.ref 53, I_ 10] n (W0 dy) g (fun v n' S' g' => V miX12_newWeight (d + 1) 36 [(0, .ref 53), (1, L_ x1)] (v.toList ++ []) n' S' g' 0 0 P))) ∧ ((1000000 < x1) → V miX12_newWeight (d + 1) 14 [(0, .ref 53), (1, L_ x1)] [] n (W0 dy) g 0 0 P))) : V miX12_newWeight (d + 1) 0 [(0, .ref 53), (1, L_ x1)] [] n (W0 dy) g 0 0 P := by
  refine v_lload_n 0 1 rfl rfl rfl ?_
  refine v_lconst (v := 1) 1 rfl (by decide) ?_
  have c1 := h.1
  have h := h.2
  refine v_lif_lt 2 rfl rfl (tgt := 14) rfl c1 (by decide) (fun q6 => ?_) (fun q6 => ?_)
  · have h := h.1 q6
    exact h
  · have h := h.2 q6
    refine v_lload_n 4 1 rfl rfl rfl ?_
    refine v_ldc2 (v := 1000000) 5 rfl (tbG_in (List.mem_append_right _ (List.mem_of_getElem? (i := 1347) (by decide +kernel))) rfl) ?_
    refine v_lif_le 6 rfl rfl (tgt := 21) rfl c1 (by decide) (fun q5 => ?_) (fun q5 => ?_)
    · have h := h.1 q5
      refine v_aload_n 12 0 rfl rfl rfl ?_
      refine v_gI 13 rfl fl12_169_11.r (al 53 rfl hn) (wk53 dy) (by decide) rfl (wc53_5 dy) (x := g 53 5) rfl ?_
      refine v_rng fun w2 => ?_
      have r3 : i3 (g 53 5) := rI w2 (q := 5) (al 53 rfl hn) (wk53 dy) rfl rfl
      refine v_bipush 14 rfl (by decide) ?_
      refine v_icmp_ne 15 rfl (tgt := 39) rfl r3 (by decide) (fun q4 => ?_) (fun q4 => ?_)
      · have h := h.1 q4
        refine v_aload_n 20 0 rfl rfl rfl ?_
        refine v_iconst 21 rfl ?_
        refine v_lload_n 22 1 rfl rfl rfl ?_
        refine v_callV (st := []) [I_ 1, L_ x1] 23 rfl lv12_178_newWeight_11 (al 53 rfl hn) (wk53 dy) (by decide) rfl (Nat.le_refl _) (Nat.le_refl _) ?_
        exact h
      · have h := h.2 q4
        refine v_aload_n 16 0 rfl rfl rfl ?_
        refine v_bipush 17 rfl (by decide) ?_
        refine v_callV (st := []) [I_ 10] 18 rfl lv12_174_newWeight_11 (al 53 rfl hn) (wk53 dy) (by decide) rfl (Nat.le_refl _) (Nat.le_refl _) ?_
        exact h
    · have h := h.2 q5
      exact h
set_option maxHeartbeats 8000000 in
set_option maxRecDepth 4000 in
theorem bX12_newWeight_14 {d n : Nat} {dy : Nat → Shp} {g : Hp} {P : Pst} {x1 : Int} (hn : 100 ≤ n) (h : Runs miX12_refuse d [.ref 53, I_ 7] n (W0 dy) g (fun v n' S' g' => V miX12_newWeight (d + 1) 20 [(0, .ref 53), (1, L_ x1)] (v.toList ++ []) n' S' g' 0 0 P)) : V miX12_newWeight (d + 1) 14 [(0, .ref 53), (1, L_ x1)] [] n (W0 dy) g 0 0 P := by
  refine v_aload_n 8 0 rfl rfl rfl ?_
  refine v_bipush 9 rfl (by decide) ?_
  refine v_callV (st := []) [I_ 7] 10 rfl lv12_174_newWeight_11 (al 53 rfl hn) (wk53 dy) (by decide) rfl (Nat.le_refl _) (Nat.le_refl _) ?_
  exact h
set_option maxHeartbeats 8000000 in
set_option maxRecDepth 4000 in
theorem bX12_newWeight_20 {d n : Nat} {dy : Nat → Shp} {g : Hp} {P : Pst} {x1 : Int} {xs0 : Int} (hn : 100 ≤ n) (h : P (some (I_ xs0)) n (W0 dy) g) : V miX12_newWeight (d + 1) 20 [(0, .ref 53), (1, L_ x1)] [I_ xs0] n (W0 dy) g 0 0 P := by
  exact v_ret (v := some (I_ xs0)) 11 rfl (Nat.zero_le _) (Nat.zero_le _) trivial rfl h
set_option maxHeartbeats 8000000 in
set_option maxRecDepth 4000 in
theorem bX12_newWeight_36 {d n : Nat} {dy : Nat → Shp} {g : Hp} {P : Pst} {x1 : Int} {xs0 : Int} (hn : 100 ≤ n) (h : V miX12_newWeight (d + 1) 45 [(0, .ref 53), (1, L_ x1)] [I_ xs0] n (W0 dy) g 0 0 P) : V miX12_newWeight (d + 1) 36 [(0, .ref 53), (1, L_ x1)] [I_ xs0] n (W0 dy) g 0 0 P := by
  refine v_goto 19 rfl (tgt := 45) rfl ?_
  exact h
set_option maxHeartbeats 8000000 in
set_option maxRecDepth 4000 in
theorem bX12_newWeight_45 {d n : Nat} {dy : Nat → Shp} {g : Hp} {P : Pst} {x1 : Int} {xs0 : Int} (hn : 100 ≤ n) (h : P (some (I_ xs0)) n (W0 dy) g) : V miX12_newWeight (d + 1) 45 [(0, .ref 53), (1, L_ x1)] [I_ xs0] n (W0 dy) g 0 0 P := by
  exact v_ret (v := some (I_ xs0)) 24 rfl (Nat.zero_le _) (Nat.zero_le _) trivial rfl h
theorem lv12_182_weight_11 : LkV miX12_weight miX12_newWeight 182 1 11 := ⟨⟨⟨tbG_in (List.mem_append_right _ (List.mem_of_getElem? (i := 1346) (by decide +kernel))) rfl, tbG_in (List.mem_append_right _ (List.mem_of_getElem? (i := 9) (by decide +kernel))) rfl, tbG_in (List.mem_append_right _ (List.mem_of_getElem? (i := 1343) (by decide +kernel))) rfl⟩, ⟨by decide +kernel, by decide +kernel, by decide +kernel⟩, by decide⟩, tbG_in (List.mem_append_right _ (List.mem_of_getElem? (i := 1345) (by decide +kernel))) rfl, RX12, TX12, 58, rfl, tbG_in (List.mem_append_left _ (List.mem_of_getElem? (i := 49) (by decide +kernel))) rfl⟩
set_option maxHeartbeats 8000000 in
set_option maxRecDepth 4000 in
theorem bX12_weight_0 {d n : Nat} {dy : Nat → Shp} {g : Hp} {P : Pst} {x1 : Int} (hn : 100 ≤ n) (h : (i3 x1) ∧ Runs miX12_newWeight d [.ref 53, L_ x1] n (W0 dy) (up2 (up2 g 53 1 0) 53 0 0) (fun v n' S' g' => V miX12_weight (d + 1) 16 [(0, .ref 53), (1, I_ x1)] (v.toList ++ []) n' S' g' 0 0 P)) : V miX12_weight (d + 1) 0 [(0, .ref 53), (1, I_ x1)] [] n (W0 dy) g 0 0 P := by
  refine v_aload_n 0 0 rfl rfl rfl ?_
  refine v_iconst 1 rfl ?_
  refine v_putI 2 rfl fl12_148_11 (al 53 rfl hn) (wk53 dy) (by decide) rfl (wc53_1 dy) (by decide) ?_
  refine v_aload_n 3 0 rfl rfl rfl ?_
  refine v_iconst 4 rfl ?_
  refine v_putI 5 rfl fl12_152_11 (al 53 rfl hn) (wk53 dy) (by decide) rfl (wc53_0 dy) (by decide) ?_
  refine v_aload_n 6 0 rfl rfl rfl ?_
  refine v_iload_n 7 1 rfl rfl rfl ?_
  have c1 := h.1
  have h := h.2
  refine v_i2l 8 rfl c1 ?_
  refine v_callV (st := []) [L_ x1] 9 rfl lv12_182_weight_11 (al 53 rfl hn) (wk53 dy) (by decide) rfl (Nat.le_refl _) (Nat.le_refl _) ?_
  exact h
set_option maxHeartbeats 8000000 in
set_option maxRecDepth 4000 in
theorem bX12_weight_16 {d n : Nat} {dy : Nat → Shp} {g : Hp} {P : Pst} {x1 : Int} {xs0 : Int} (hn : 100 ≤ n) (h : P (some (I_ xs0)) n (W0 dy) g) : V miX12_weight (d + 1) 16 [(0, .ref 53), (1, I_ x1)] [I_ xs0] n (W0 dy) g 0 0 P := by
  exact v_ret (v := some (I_ xs0)) 10 rfl (Nat.zero_le _) (Nat.zero_le _) trivial rfl h
theorem lv12_159_load_11 : LkV miX12_load miX12_placed 159 2 11 := ⟨⟨⟨tbG_in (List.mem_append_right _ (List.mem_of_getElem? (i := 1326) (by decide +kernel))) rfl, tbG_in (List.mem_append_right _ (List.mem_of_getElem? (i := 9) (by decide +kernel))) rfl, tbG_in (List.mem_append_right _ (List.mem_of_getElem? (i := 1323) (by decide +kernel))) rfl⟩, ⟨by decide +kernel, by decide +kernel, by decide +kernel⟩, by decide⟩, tbG_in (List.mem_append_right _ (List.mem_of_getElem? (i := 1325) (by decide +kernel))) rfl, RX12, TX12, 58, rfl, tbG_in (List.mem_append_left _ (List.mem_of_getElem? (i := 48) (by decide +kernel))) rfl⟩
theorem lv12_182_load_11 : LkV miX12_load miX12_newWeight 182 1 11 := ⟨⟨⟨tbG_in (List.mem_append_right _ (List.mem_of_getElem? (i := 1346) (by decide +kernel))) rfl, tbG_in (List.mem_append_right _ (List.mem_of_getElem? (i := 9) (by decide +kernel))) rfl, tbG_in (List.mem_append_right _ (List.mem_of_getElem? (i := 1343) (by decide +kernel))) rfl⟩, ⟨by decide +kernel, by decide +kernel, by decide +kernel⟩, by decide⟩, tbG_in (List.mem_append_right _ (List.mem_of_getElem? (i := 1345) (by decide +kernel))) rfl, RX12, TX12, 58, rfl, tbG_in (List.mem_append_left _ (List.mem_of_getElem? (i := 49) (by decide +kernel))) rfl⟩
set_option maxHeartbeats 8000000 in
set_option maxRecDepth 4000 in
theorem bX12_load_0 {d n : Nat} {dy : Nat → Shp} {g : Hp} {P : Pst} {x1 : Int} {x2 : Int} (hn : 100 ≤ n) (h : Runs miX12_placed d [.ref 53, I_ x1, I_ x2] n (W0 dy) (up2 g 53 1 0) (fun v n' S' g' => V miX12_load (d + 1) 12 [(0, .ref 53), (1, I_ x1), (2, I_ x2)] (v.toList ++ [.ref 53]) n' S' g' 0 0 P)) : V miX12_load (d + 1) 0 [(0, .ref 53), (1, I_ x1), (2, I_ x2)] [] n (W0 dy) g 0 0 P := by
  refine v_aload_n 0 0 rfl rfl rfl ?_
  refine v_iconst 1 rfl ?_
  refine v_putI 2 rfl fl12_148_11 (al 53 rfl hn) (wk53 dy) (by decide) rfl (wc53_1 dy) (by decide) ?_
  refine v_aload_n 3 0 rfl rfl rfl ?_
  refine v_aload_n 4 0 rfl rfl rfl ?_
  refine v_iload_n 5 1 rfl rfl rfl ?_
  refine v_iload_n 6 2 rfl rfl rfl ?_
  refine v_callV (st := [.ref 53]) [I_ x1, I_ x2] 7 rfl lv12_159_load_11 (al 53 rfl hn) (wk53 dy) (by decide) rfl (Nat.le_refl _) (Nat.le_refl _) ?_
  exact h
set_option maxHeartbeats 8000000 in
set_option maxRecDepth 4000 in
theorem bX12_load_12 {d n : Nat} {dy : Nat → Shp} {g : Hp} {P : Pst} {x1 : Int} {x2 : Int} {xs1 : Int} (hn : 100 ≤ n) (h : (i3 xs1) ∧ ((xs1 ≤ 0) → (0 ≤ (16 * x1) + x2 ∧ (16 * x1) + x2 < 96) ∧ Runs miX12_newWeight d [.ref 53, L_ (g 56 (((16 * x1) + x2).toNat))] n (W0 dy) (up2 g 53 0 xs1) (fun v n' S' g' => V miX12_load (d + 1) 41 [(0, .ref 53), (1, I_ x1), (2, I_ x2)] (v.toList ++ []) n' S' g' 0 0 P)) ∧ ((0 < xs1) → V miX12_load (d + 1) 41 [(0, .ref 53), (1, I_ x1), (2, I_ x2)] [I_ ((-1))] n (W0 dy) (up2 g 53 0 xs1) 0 0 P)) : V miX12_load (d + 1) 12 [(0, .ref 53), (1, I_ x1), (2, I_ x2)] [I_ xs1, .ref 53] n (W0 dy) g 0 0 P := by
  have c1 := h.1
  have h := h.2
  refine v_putI 8 rfl fl12_152_11 (al 53 rfl hn) (wk53 dy) (by decide) rfl (wc53_0 dy) c1 ?_
  refine v_aload_n 9 0 rfl rfl rfl ?_
  refine v_gI 10 rfl fl12_152_11.r (al 53 rfl hn) (wk53 dy) (by decide) rfl (wc53_0 dy) (x := xs1) rfl ?_
  refine v_rng fun w2 => ?_
  have r3 : i3 (xs1) := rI w2 (q := 0) (al 53 rfl hn) (wk53 dy) rfl rfl
  refine v_if_le 11 rfl (tgt := 26) rfl r3 (fun q7 => ?_) (fun q7 => ?_)
  · have h := h.1 q7
    refine v_aload_n 14 0 rfl rfl rfl ?_
    refine v_aload_n 15 0 rfl rfl rfl ?_
    refine v_gK 16 rfl fl12_16_11.r (al 53 rfl hn) (wk53 dy) (by decide) rfl (r := 56) (wc53_4 dy) ?_
    refine v_bipush 17 rfl (by decide) ?_
    refine v_iload_n 18 1 rfl rfl rfl ?_
    refine v_imul 19 rfl ?_
    refine v_iload_n 20 2 rfl rfl rfl ?_
    refine v_iadd 21 rfl ?_
    have c4 := h.1
    have h := h.2
    refine v_la (N := 96) 22 rfl (al 56 rfl hn) (wk56 dy) (wn56 dy) (by decide) c4 (y := g 56 (((16 * x1) + x2).toNat)) rfl ?_
    refine v_rng fun w5 => ?_
    have r6 : i6 (g 56 (((16 * x1) + x2).toNat)) := rL w5 (q := (((16 * x1) + x2).toNat)) (al 56 rfl hn) (wk56 dy) rfl rfl
    refine v_callV (st := []) [L_ (g 56 (((16 * x1) + x2).toNat))] 23 rfl lv12_182_load_11 (al 53 rfl hn) (wk53 dy) (by decide) rfl (Nat.le_refl _) (Nat.le_refl _) ?_
    exact h
  · have h := h.2 q7
    refine v_iconst 12 rfl ?_
    refine v_goto 13 rfl (tgt := 41) rfl ?_
    exact h
set_option maxHeartbeats 8000000 in
set_option maxRecDepth 4000 in
theorem bX12_load_41 {d n : Nat} {dy : Nat → Shp} {g : Hp} {P : Pst} {x1 : Int} {x2 : Int} {xs0 : Int} (hn : 100 ≤ n) (h : P (some (I_ xs0)) n (W0 dy) g) : V miX12_load (d + 1) 41 [(0, .ref 53), (1, I_ x1), (2, I_ x2)] [I_ xs0] n (W0 dy) g 0 0 P := by
  exact v_ret (v := some (I_ xs0)) 24 rfl (Nat.zero_le _) (Nat.zero_le _) trivial rfl h
theorem fl12_26_11 : FL RX12 26 11 8 true (.array .int) := ⟨RX12, TX12, 58, "MobileMakerModel", rfl, rfl, by decide, kf11, tbG_in (List.mem_append_right _ (List.mem_of_getElem? (i := 1135) (by decide +kernel))) rfl, Or.inl rfl, rfl, by decide +kernel, ⟨tyX12, tyX12_ok⟩, nmX12, fun _ => rfl⟩
theorem fl12_23_11 : FL RX12 23 11 7 true (.array .int) := ⟨RX12, TX12, 58, "MobileMakerModel", rfl, rfl, by decide, kf11, tbG_in (List.mem_append_right _ (List.mem_of_getElem? (i := 1134) (by decide +kernel))) rfl, Or.inl rfl, rfl, by decide +kernel, ⟨tyX12, tyX12_ok⟩, nmX12, fun _ => rfl⟩
theorem fl12_41_11 : FL RX12 41 11 13 true (.array .long) := ⟨RX12, TX12, 58, "MobileMakerModel", rfl, rfl, by decide, kf11, tbG_in (List.mem_append_right _ (List.mem_of_getElem? (i := 1140) (by decide +kernel))) rfl, Or.inl rfl, rfl, by decide +kernel, ⟨tyX12, tyX12_ok⟩, nmX12, fun _ => rfl⟩
theorem fl12_44_11 : FL RX12 44 11 14 true (.array .long) := ⟨RX12, TX12, 58, "MobileMakerModel", rfl, rfl, by decide, kf11, tbG_in (List.mem_append_right _ (List.mem_of_getElem? (i := 1141) (by decide +kernel))) rfl, Or.inl rfl, rfl, by decide +kernel, ⟨tyX12, tyX12_ok⟩, nmX12, fun _ => rfl⟩
theorem lv12_174_rod_11 : LkV miX12_rod miX12_refuse 174 1 11 := ⟨⟨⟨tbG_in (List.mem_append_right _ (List.mem_of_getElem? (i := 1351) (by decide +kernel))) rfl, tbG_in (List.mem_append_right _ (List.mem_of_getElem? (i := 9) (by decide +kernel))) rfl, tbG_in (List.mem_append_right _ (List.mem_of_getElem? (i := 1348) (by decide +kernel))) rfl⟩, ⟨by decide +kernel, by decide +kernel, by decide +kernel⟩, by decide⟩, tbG_in (List.mem_append_right _ (List.mem_of_getElem? (i := 1350) (by decide +kernel))) rfl, RX12, TX12, 58, rfl, tbG_in (List.mem_append_left _ (List.mem_of_getElem? (i := 50) (by decide +kernel))) rfl⟩
theorem lv12_178_rod_11 : LkV miX12_rod miX12_newPart 178 2 11 := ⟨⟨⟨tbG_in (List.mem_append_right _ (List.mem_of_getElem? (i := 1355) (by decide +kernel))) rfl, tbG_in (List.mem_append_right _ (List.mem_of_getElem? (i := 9) (by decide +kernel))) rfl, tbG_in (List.mem_append_right _ (List.mem_of_getElem? (i := 1352) (by decide +kernel))) rfl⟩, ⟨by decide +kernel, by decide +kernel, by decide +kernel⟩, by decide⟩, tbG_in (List.mem_append_right _ (List.mem_of_getElem? (i := 1354) (by decide +kernel))) rfl, RX12, TX12, 58, rfl, tbG_in (List.mem_append_left _ (List.mem_of_getElem? (i := 51) (by decide +kernel))) rfl⟩
set_option maxHeartbeats 8000000 in
set_option maxRecDepth 4000 in
theorem bX12_rod_0 {d n : Nat} {dy : Nat → Shp} {g : Hp} {P : Pst} {x1 : Int} {x2 : Int} {x3 : Int} (hn : 100 ≤ n) (h : (i3 x1) ∧ ((x1 < 2) → V miX12_rod (d + 1) 33 [(0, .ref 53), (1, I_ x1), (2, I_ x2), (3, I_ x3)] [] n (W0 dy) (up2 (up2 g 53 1 0) 53 0 0) 0 0 P) ∧ ((2 ≤ x1) → ((1000 < x1) → V miX12_rod (d + 1) 33 [(0, .ref 53), (1, I_ x1), (2, I_ x2), (3, I_ x3)] [] n (W0 dy) (up2 (up2 g 53 1 0) 53 0 0) 0 0 P) ∧ ((x1 ≤ 1000) → (i3 x2) ∧ ((x2 < 0) → V miX12_rod (d + 1) 33 [(0, .ref 53), (1, I_ x1), (2, I_ x2), (3, I_ x3)] [] n (W0 dy) (up2 (up2 g 53 1 0) 53 0 0) 0 0 P) ∧ ((0 ≤ x2) → ((x2 ≤ 1000) → (((g 53 5) ≠ 60) → (i3 x3) ∧ ((x3 = 0) → V miX12_rod (d + 1) 66 [(0, .ref 53), (1, I_ x1), (2, I_ x2), (3, I_ x3)] [I_ 2, .ref 53] n (W0 dy) (up2 (up2 g 53 1 0) 53 0 0) 0 0 P) ∧ ((x3 ≠ 0) → V miX12_rod (d + 1) 66 [(0, .ref 53), (1, I_ x1), (2, I_ x2), (3, I_ x3)] [I_ 3, .ref 53] n (W0 dy) (up2 (up2 g 53 1 0) 53 0 0) 0 0 P)) ∧ (((g 53 5) = 60) → Runs miX12_refuse d [.ref 53, I_ 10] n (W0 dy) (up2 (up2 g 53 1 0) 53 0 0) (fun v n' S' g' => V miX12_rod (d + 1) 55 [(0, .ref 53), (1, I_ x1), (2, I_ x2), (3, I_ x3)] (v.toList ++ []) n' S' g' 0 0 P))) ∧ ((1000 < x2) → V miX12_rod (d + 1) 33 [(0, .ref 53), (1, I_ x1), (2, I_ x2), (3, I_ x3)] [] n (W0 dy) (up2 (up2 g 53 1 0) 53 0 0) 0 0 P))))) : V miX12_rod (d + 1) 0 [(0, .ref 53), (1, I_ x1), (2, I_ x2), (3, I_ x3)] [] n (W0 dy) g 0 0 P := by
  refine v_aload_n 0 0 rfl rfl rfl ?_
  refine v_iconst 1 rfl ?_
  refine v_putI 2 rfl fl12_148_11 (al 53 rfl hn) (wk53 dy) (by decide) rfl (wc53_1 dy) (by decide) ?_
  refine v_aload_n 3 0 rfl rfl rfl ?_
  refine v_iconst 4 rfl ?_
  refine v_putI 5 rfl fl12_152_11 (al 53 rfl hn) (wk53 dy) (by decide) rfl (wc53_0 dy) (by decide) ?_
  refine v_iload_n 6 1 rfl rfl rfl ?_
  refine v_iconst 7 rfl ?_
  have c1 := h.1
  have h := h.2
  refine v_icmp_lt 8 rfl (tgt := 33) rfl c1 (by decide) (fun q11 => ?_) (fun q11 => ?_)
  · have h := h.1 q11
    exact h
  · have h := h.2 q11
    refine v_iload_n 9 1 rfl rfl rfl ?_
    refine v_sipush 10 rfl (by decide) ?_
    refine v_icmp_gt 11 rfl (tgt := 33) rfl c1 (by decide) (fun q10 => ?_) (fun q10 => ?_)
    · have h := h.1 q10
      exact h
    · have h := h.2 q10
      refine v_iload_n 12 2 rfl rfl rfl ?_
      have c2 := h.1
      have h := h.2
      refine v_if_lt 13 rfl (tgt := 33) rfl c2 (fun q9 => ?_) (fun q9 => ?_)
      · have h := h.1 q9
        exact h
      · have h := h.2 q9
        refine v_iload_n 14 2 rfl rfl rfl ?_
        refine v_sipush 15 rfl (by decide) ?_
        refine v_icmp_le 16 rfl (tgt := 40) rfl c2 (by decide) (fun q8 => ?_) (fun q8 => ?_)
        · have h := h.1 q8
          refine v_aload_n 21 0 rfl rfl rfl ?_
          refine v_gI 22 rfl fl12_169_11.r (al 53 rfl hn) (wk53 dy) (by decide) rfl (wc53_5 dy) (x := g 53 5) rfl ?_
          refine v_rng fun w3 => ?_
          have r4 : i3 (g 53 5) := rI w3 (q := 5) (al 53 rfl hn) (wk53 dy) rfl rfl
          refine v_bipush 23 rfl (by decide) ?_
          refine v_icmp_ne 24 rfl (tgt := 56) rfl r4 (by decide) (fun q7 => ?_) (fun q7 => ?_)
          · have h := h.1 q7
            refine v_aload_n 29 0 rfl rfl rfl ?_
            refine v_iload_n 30 3 rfl rfl rfl ?_
            have c5 := h.1
            have h := h.2
            refine v_if_eq 31 rfl (tgt := 65) rfl c5 (fun q6 => ?_) (fun q6 => ?_)
            · have h := h.1 q6
              refine v_iconst 34 rfl ?_
              exact h
            · have h := h.2 q6
              refine v_iconst 32 rfl ?_
              refine v_goto 33 rfl (tgt := 66) rfl ?_
              exact h
          · have h := h.2 q7
            refine v_aload_n 25 0 rfl rfl rfl ?_
            refine v_bipush 26 rfl (by decide) ?_
            refine v_callV (st := []) [I_ 10] 27 rfl lv12_174_rod_11 (al 53 rfl hn) (wk53 dy) (by decide) rfl (Nat.le_refl _) (Nat.le_refl _) ?_
            exact h
        · have h := h.2 q8
          exact h
set_option maxHeartbeats 8000000 in
set_option maxRecDepth 4000 in
theorem bX12_rod_33 {d n : Nat} {dy : Nat → Shp} {g : Hp} {P : Pst} {x1 : Int} {x2 : Int} {x3 : Int} (hn : 100 ≤ n) (h : Runs miX12_refuse d [.ref 53, I_ 7] n (W0 dy) g (fun v n' S' g' => V miX12_rod (d + 1) 39 [(0, .ref 53), (1, I_ x1), (2, I_ x2), (3, I_ x3)] (v.toList ++ []) n' S' g' 0 0 P)) : V miX12_rod (d + 1) 33 [(0, .ref 53), (1, I_ x1), (2, I_ x2), (3, I_ x3)] [] n (W0 dy) g 0 0 P := by
  refine v_aload_n 17 0 rfl rfl rfl ?_
  refine v_bipush 18 rfl (by decide) ?_
  refine v_callV (st := []) [I_ 7] 19 rfl lv12_174_rod_11 (al 53 rfl hn) (wk53 dy) (by decide) rfl (Nat.le_refl _) (Nat.le_refl _) ?_
  exact h
set_option maxHeartbeats 8000000 in
set_option maxRecDepth 4000 in
theorem bX12_rod_39 {d n : Nat} {dy : Nat → Shp} {g : Hp} {P : Pst} {x1 : Int} {x2 : Int} {x3 : Int} {xs0 : Int} (hn : 100 ≤ n) (h : P (some (I_ xs0)) n (W0 dy) g) : V miX12_rod (d + 1) 39 [(0, .ref 53), (1, I_ x1), (2, I_ x2), (3, I_ x3)] [I_ xs0] n (W0 dy) g 0 0 P := by
  exact v_ret (v := some (I_ xs0)) 20 rfl (Nat.zero_le _) (Nat.zero_le _) trivial rfl h
set_option maxHeartbeats 8000000 in
set_option maxRecDepth 4000 in
theorem bX12_rod_55 {d n : Nat} {dy : Nat → Shp} {g : Hp} {P : Pst} {x1 : Int} {x2 : Int} {x3 : Int} {xs0 : Int} (hn : 100 ≤ n) (h : P (some (I_ xs0)) n (W0 dy) g) : V miX12_rod (d + 1) 55 [(0, .ref 53), (1, I_ x1), (2, I_ x2), (3, I_ x3)] [I_ xs0] n (W0 dy) g 0 0 P := by
  exact v_ret (v := some (I_ xs0)) 28 rfl (Nat.zero_le _) (Nat.zero_le _) trivial rfl h
set_option maxHeartbeats 8000000 in
set_option maxRecDepth 4000 in
theorem bX12_rod_66 {d n : Nat} {dy : Nat → Shp} {g : Hp} {P : Pst} {x1 : Int} {x2 : Int} {x3 : Int} {xs1 : Int} (hn : 100 ≤ n) (h : (i3 x1) ∧ (i3 x2) ∧ Runs miX12_newPart d [.ref 53, I_ xs1, L_ (x1 * x2)] n (W0 dy) g (fun v n' S' g' => V miX12_rod (d + 1) 74 [(0, .ref 53), (1, I_ x1), (2, I_ x2), (3, I_ x3)] (v.toList ++ []) n' S' g' 0 0 P)) : V miX12_rod (d + 1) 66 [(0, .ref 53), (1, I_ x1), (2, I_ x2), (3, I_ x3)] [I_ xs1, .ref 53] n (W0 dy) g 0 0 P := by
  refine v_iload_n 35 1 rfl rfl rfl ?_
  have c1 := h.1
  have h := h.2
  refine v_i2l 36 rfl c1 ?_
  refine v_iload_n 37 2 rfl rfl rfl ?_
  have c2 := h.1
  have h := h.2
  refine v_i2l 38 rfl c2 ?_
  refine v_lmul 39 rfl ?_
  refine v_callV (st := []) [I_ xs1, L_ (x1 * x2)] 40 rfl lv12_178_rod_11 (al 53 rfl hn) (wk53 dy) (by decide) rfl (Nat.le_refl _) (Nat.le_refl _) ?_
  exact h
set_option maxHeartbeats 8000000 in
set_option maxRecDepth 4000 in
theorem bX12_rod_74 {d n : Nat} {dy : Nat → Shp} {g : Hp} {P : Pst} {x1 : Int} {x2 : Int} {x3 : Int} {xs0 : Int} (hn : 100 ≤ n) (h : (0 ≤ xs0 ∧ xs0 < 60) ∧ (i3 x1) ∧ (i3 x2) ∧ P (some (I_ xs0)) n (W0 dy) (up2 (up2 (up2 (up2 g 59 xs0.toNat x1) 58 xs0.toNat x2) 64 xs0.toNat 1) 65 xs0.toNat 2)) : V miX12_rod (d + 1) 74 [(0, .ref 53), (1, I_ x1), (2, I_ x2), (3, I_ x3)] [I_ xs0] n (W0 dy) g 0 0 P := by
  refine v_istore 41 [1, 2, 3, 4, 0] rfl (by decide) rfl ?_
  refine v_aload_n 42 0 rfl rfl rfl ?_
  refine v_gK 43 rfl fl12_26_11.r (al 53 rfl hn) (wk53 dy) (by decide) rfl (r := 59) (wc53_8 dy) ?_
  refine v_iload 44 4 rfl rfl ?_
  refine v_iload_n 45 1 rfl rfl rfl ?_
  have c1 := h.1
  have h := h.2
  have c2 := h.1
  have h := h.2
  refine v_iast (N := 60) 46 rfl (al 59 rfl hn) (wk59 dy) (wn59 dy) (by decide) c1 c2 ?_
  refine v_aload_n 47 0 rfl rfl rfl ?_
  refine v_gK 48 rfl fl12_23_11.r (al 53 rfl hn) (wk53 dy) (by decide) rfl (r := 58) (wc53_7 dy) ?_
  refine v_iload 49 4 rfl rfl ?_
  refine v_iload_n 50 2 rfl rfl rfl ?_
  have c3 := h.1
  have h := h.2
  refine v_iast (N := 60) 51 rfl (al 58 rfl hn) (wk58 dy) (wn58 dy) (by decide) c1 c3 ?_
  refine v_aload_n 52 0 rfl rfl rfl ?_
  refine v_gK 53 rfl fl12_41_11.r (al 53 rfl hn) (wk53 dy) (by decide) rfl (r := 64) (wc53_13 dy) ?_
  refine v_iload 54 4 rfl rfl ?_
  refine v_lconst (v := 1) 55 rfl (by decide) ?_
  refine v_last (N := 60) 56 rfl (al 64 rfl hn) (wk64 dy) (wn64 dy) (by decide) c1 (by decide) ?_
  refine v_aload_n 57 0 rfl rfl rfl ?_
  refine v_gK 58 rfl fl12_44_11.r (al 53 rfl hn) (wk53 dy) (by decide) rfl (r := 65) (wc53_14 dy) ?_
  refine v_iload 59 4 rfl rfl ?_
  refine v_ldc2 (v := 2) 60 rfl (tbG_in (List.mem_append_right _ (List.mem_of_getElem? (i := 1364) (by decide +kernel))) rfl) ?_
  refine v_last (N := 60) 61 rfl (al 65 rfl hn) (wk65 dy) (wn65 dy) (by decide) c1 (by decide) ?_
  refine v_iload 62 4 rfl rfl ?_
  exact v_ret (v := some (I_ xs0)) 63 rfl (Nat.zero_le _) (Nat.zero_le _) trivial rfl h
theorem fl12_88_11 : FL RX12 88 11 30 true (.array .int) := ⟨RX12, TX12, 58, "MobileMakerModel", rfl, rfl, by decide, kf11, tbG_in (List.mem_append_right _ (List.mem_of_getElem? (i := 1157) (by decide +kernel))) rfl, Or.inl rfl, rfl, by decide +kernel, ⟨tyX12, tyX12_ok⟩, nmX12, fun _ => rfl⟩
theorem fl12_91_11 : FL RX12 91 11 31 true (.array .int) := ⟨RX12, TX12, 58, "MobileMakerModel", rfl, rfl, by decide, kf11, tbG_in (List.mem_append_right _ (List.mem_of_getElem? (i := 1158) (by decide +kernel))) rfl, Or.inl rfl, rfl, by decide +kernel, ⟨tyX12, tyX12_ok⟩, nmX12, fun _ => rfl⟩
set_option maxHeartbeats 8000000 in
set_option maxRecDepth 4000 in
theorem bX12_turn_0 {d n : Nat} {dy : Nat → Shp} {g : Hp} {P : Pst} {x1 : Int} {x2 : Int} {x3 : Int} (hn : 100 ≤ n) (h : (0 ≤ x2 ∧ x2 < 8) ∧ (0 ≤ x1 ∧ x1 < 8) ∧ (i3 ((g 79 x2.toNat) - (g 79 x1.toNat))) ∧ (0 ≤ x3 ∧ x3 < 8) ∧ (i3 ((g 80 x3.toNat) - (g 80 x1.toNat))) ∧ (i3 ((g 80 x2.toNat) - (g 80 x1.toNat))) ∧ (i3 ((g 79 x3.toNat) - (g 79 x1.toNat))) ∧ P (some (L_ ((((g 79 x2.toNat) - (g 79 x1.toNat)) * ((g 80 x3.toNat) - (g 80 x1.toNat))) - (((g 80 x2.toNat) - (g 80 x1.toNat)) * ((g 79 x3.toNat) - (g 79 x1.toNat)))))) n (W0 dy) g) : V miX12_turn d 0 [(0, .ref 53), (1, I_ x1), (2, I_ x2), (3, I_ x3)] [] n (W0 dy) g 0 0 P := by
  refine v_aload_n 0 0 rfl rfl rfl ?_
  refine v_gK 1 rfl fl12_88_11.r (al 53 rfl hn) (wk53 dy) (by decide) rfl (r := 79) (wc53_30 dy) ?_
  refine v_iload_n 2 2 rfl rfl rfl ?_
  have c1 := h.1
  have h := h.2
  refine v_ia (N := 8) 3 rfl (al 79 rfl hn) (wk79 dy) (wn79 dy) (by decide) c1 (y := g 79 x2.toNat) rfl ?_
  refine v_rng fun w2 => ?_
  have r3 : i3 (g 79 x2.toNat) := rI w2 (q := x2.toNat) (al 79 rfl hn) (wk79 dy) rfl rfl
  refine v_aload_n 4 0 rfl rfl rfl ?_
  refine v_gK 5 rfl fl12_88_11.r (al 53 rfl hn) (wk53 dy) (by decide) rfl (r := 79) (wc53_30 dy) ?_
  refine v_iload_n 6 1 rfl rfl rfl ?_
  have c4 := h.1
  have h := h.2
  refine v_ia (N := 8) 7 rfl (al 79 rfl hn) (wk79 dy) (wn79 dy) (by decide) c4 (y := g 79 x1.toNat) rfl ?_
  refine v_rng fun w5 => ?_
  have r6 : i3 (g 79 x1.toNat) := rI w5 (q := x1.toNat) (al 79 rfl hn) (wk79 dy) rfl rfl
  refine v_isub 8 rfl ?_
  have c7 := h.1
  have h := h.2
  refine v_i2l 9 rfl c7 ?_
  refine v_aload_n 10 0 rfl rfl rfl ?_
  refine v_gK 11 rfl fl12_91_11.r (al 53 rfl hn) (wk53 dy) (by decide) rfl (r := 80) (wc53_31 dy) ?_
  refine v_iload_n 12 3 rfl rfl rfl ?_
  have c8 := h.1
  have h := h.2
  refine v_ia (N := 8) 13 rfl (al 80 rfl hn) (wk80 dy) (wn80 dy) (by decide) c8 (y := g 80 x3.toNat) rfl ?_
  refine v_rng fun w9 => ?_
  have r10 : i3 (g 80 x3.toNat) := rI w9 (q := x3.toNat) (al 80 rfl hn) (wk80 dy) rfl rfl
  refine v_aload_n 14 0 rfl rfl rfl ?_
  refine v_gK 15 rfl fl12_91_11.r (al 53 rfl hn) (wk53 dy) (by decide) rfl (r := 80) (wc53_31 dy) ?_
  refine v_iload_n 16 1 rfl rfl rfl ?_
  refine v_ia (N := 8) 17 rfl (al 80 rfl hn) (wk80 dy) (wn80 dy) (by decide) c4 (y := g 80 x1.toNat) rfl ?_
  refine v_rng fun w11 => ?_
  have r12 : i3 (g 80 x1.toNat) := rI w11 (q := x1.toNat) (al 80 rfl hn) (wk80 dy) rfl rfl
  refine v_isub 18 rfl ?_
  have c13 := h.1
  have h := h.2
  refine v_i2l 19 rfl c13 ?_
  refine v_lmul 20 rfl ?_
  refine v_aload_n 21 0 rfl rfl rfl ?_
  refine v_gK 22 rfl fl12_91_11.r (al 53 rfl hn) (wk53 dy) (by decide) rfl (r := 80) (wc53_31 dy) ?_
  refine v_iload_n 23 2 rfl rfl rfl ?_
  refine v_ia (N := 8) 24 rfl (al 80 rfl hn) (wk80 dy) (wn80 dy) (by decide) c1 (y := g 80 x2.toNat) rfl ?_
  refine v_rng fun w14 => ?_
  have r15 : i3 (g 80 x2.toNat) := rI w14 (q := x2.toNat) (al 80 rfl hn) (wk80 dy) rfl rfl
  refine v_aload_n 25 0 rfl rfl rfl ?_
  refine v_gK 26 rfl fl12_91_11.r (al 53 rfl hn) (wk53 dy) (by decide) rfl (r := 80) (wc53_31 dy) ?_
  refine v_iload_n 27 1 rfl rfl rfl ?_
  refine v_ia (N := 8) 28 rfl (al 80 rfl hn) (wk80 dy) (wn80 dy) (by decide) c4 (y := g 80 x1.toNat) rfl ?_
  refine v_rng fun w16 => ?_
  have r17 : i3 (g 80 x1.toNat) := rI w16 (q := x1.toNat) (al 80 rfl hn) (wk80 dy) rfl rfl
  refine v_isub 29 rfl ?_
  have c18 := h.1
  have h := h.2
  refine v_i2l 30 rfl c18 ?_
  refine v_aload_n 31 0 rfl rfl rfl ?_
  refine v_gK 32 rfl fl12_88_11.r (al 53 rfl hn) (wk53 dy) (by decide) rfl (r := 79) (wc53_30 dy) ?_
  refine v_iload_n 33 3 rfl rfl rfl ?_
  refine v_ia (N := 8) 34 rfl (al 79 rfl hn) (wk79 dy) (wn79 dy) (by decide) c8 (y := g 79 x3.toNat) rfl ?_
  refine v_rng fun w19 => ?_
  have r20 : i3 (g 79 x3.toNat) := rI w19 (q := x3.toNat) (al 79 rfl hn) (wk79 dy) rfl rfl
  refine v_aload_n 35 0 rfl rfl rfl ?_
  refine v_gK 36 rfl fl12_88_11.r (al 53 rfl hn) (wk53 dy) (by decide) rfl (r := 79) (wc53_30 dy) ?_
  refine v_iload_n 37 1 rfl rfl rfl ?_
  refine v_ia (N := 8) 38 rfl (al 79 rfl hn) (wk79 dy) (wn79 dy) (by decide) c4 (y := g 79 x1.toNat) rfl ?_
  refine v_rng fun w21 => ?_
  have r22 : i3 (g 79 x1.toNat) := rI w21 (q := x1.toNat) (al 79 rfl hn) (wk79 dy) rfl rfl
  refine v_isub 39 rfl ?_
  have c23 := h.1
  have h := h.2
  refine v_i2l 40 rfl c23 ?_
  refine v_lmul 41 rfl ?_
  refine v_lsub 42 rfl ?_
  exact v_ret (v := some (L_ ((((g 79 x2.toNat) - (g 79 x1.toNat)) * ((g 80 x3.toNat) - (g 80 x1.toNat))) - (((g 80 x2.toNat) - (g 80 x1.toNat)) * ((g 79 x3.toNat) - (g 79 x1.toNat)))))) 43 rfl (Nat.zero_le _) (Nat.zero_le _) trivial rfl h
theorem ls12_188_isOn : LkS miX12_isOn miJ9_min_7cf53 188 2 := ⟨⟨⟨tbG_in (List.mem_append_right _ (List.mem_of_getElem? (i := 501) (by decide +kernel))) rfl, tbG_in (List.mem_append_right _ (List.mem_of_getElem? (i := 15) (by decide +kernel))) rfl, tbG_in (List.mem_append_right _ (List.mem_of_getElem? (i := 1379) (by decide +kernel))) rfl⟩, ⟨by decide +kernel, by decide +kernel, by decide +kernel⟩, by decide⟩, tbG_in (List.mem_append_right _ (List.mem_of_getElem? (i := 500) (by decide +kernel))) rfl⟩
theorem ls12_193_isOn : LkS miX12_isOn miJ9_max_7cf53 193 2 := ⟨⟨⟨tbG_in (List.mem_append_right _ (List.mem_of_getElem? (i := 537) (by decide +kernel))) rfl, tbG_in (List.mem_append_right _ (List.mem_of_getElem? (i := 15) (by decide +kernel))) rfl, tbG_in (List.mem_append_right _ (List.mem_of_getElem? (i := 1380) (by decide +kernel))) rfl⟩, ⟨by decide +kernel, by decide +kernel, by decide +kernel⟩, by decide⟩, tbG_in (List.mem_append_right _ (List.mem_of_getElem? (i := 536) (by decide +kernel))) rfl⟩
theorem lv12_196_isOn_11 : LkV miX12_isOn miX12_turn 196 3 11 := ⟨⟨⟨tbG_in (List.mem_append_right _ (List.mem_of_getElem? (i := 1384) (by decide +kernel))) rfl, tbG_in (List.mem_append_right _ (List.mem_of_getElem? (i := 9) (by decide +kernel))) rfl, tbG_in (List.mem_append_right _ (List.mem_of_getElem? (i := 1381) (by decide +kernel))) rfl⟩, ⟨by decide +kernel, by decide +kernel, by decide +kernel⟩, by decide⟩, tbG_in (List.mem_append_right _ (List.mem_of_getElem? (i := 1383) (by decide +kernel))) rfl, RX12, TX12, 58, rfl, tbG_in (List.mem_append_left _ (List.mem_of_getElem? (i := 54) (by decide +kernel))) rfl⟩
set_option maxHeartbeats 8000000 in
set_option maxRecDepth 4000 in
theorem bX12_isOn_0 {d n : Nat} {dy : Nat → Shp} {g : Hp} {P : Pst} {x1 : Int} {x2 : Int} {x3 : Int} (hn : 100 ≤ n) (h : (0 ≤ x1 ∧ x1 < 8) ∧ (0 ≤ x2 ∧ x2 < 8) ∧ Runs miJ9_min_7cf53 d [I_ (g 79 x1.toNat), I_ (g 79 x2.toNat)] n (W0 dy) g (fun v n' S' g' => V miX12_isOn (d + 1) 15 [(0, .ref 53), (1, I_ x1), (2, I_ x2), (3, I_ x3)] (v.toList ++ []) n' S' g' 0 0 P)) : V miX12_isOn (d + 1) 0 [(0, .ref 53), (1, I_ x1), (2, I_ x2), (3, I_ x3)] [] n (W0 dy) g 0 0 P := by
  refine v_aload_n 0 0 rfl rfl rfl ?_
  refine v_gK 1 rfl fl12_88_11.r (al 53 rfl hn) (wk53 dy) (by decide) rfl (r := 79) (wc53_30 dy) ?_
  refine v_iload_n 2 1 rfl rfl rfl ?_
  have c1 := h.1
  have h := h.2
  refine v_ia (N := 8) 3 rfl (al 79 rfl hn) (wk79 dy) (wn79 dy) (by decide) c1 (y := g 79 x1.toNat) rfl ?_
  refine v_rng fun w2 => ?_
  have r3 : i3 (g 79 x1.toNat) := rI w2 (q := x1.toNat) (al 79 rfl hn) (wk79 dy) rfl rfl
  refine v_aload_n 4 0 rfl rfl rfl ?_
  refine v_gK 5 rfl fl12_88_11.r (al 53 rfl hn) (wk53 dy) (by decide) rfl (r := 79) (wc53_30 dy) ?_
  refine v_iload_n 6 2 rfl rfl rfl ?_
  have c4 := h.1
  have h := h.2
  refine v_ia (N := 8) 7 rfl (al 79 rfl hn) (wk79 dy) (wn79 dy) (by decide) c4 (y := g 79 x2.toNat) rfl ?_
  refine v_rng fun w5 => ?_
  have r6 : i3 (g 79 x2.toNat) := rI w5 (q := x2.toNat) (al 79 rfl hn) (wk79 dy) rfl rfl
  refine v_callS (st := []) [I_ (g 79 x1.toNat), I_ (g 79 x2.toNat)] 8 rfl ls12_188_isOn rfl (Nat.lt_of_lt_of_le (by decide) hn) (Nat.le_refl _) (Nat.le_refl _) ?_
  exact h
set_option maxHeartbeats 8000000 in
set_option maxRecDepth 4000 in
theorem bX12_isOn_15 {d n : Nat} {dy : Nat → Shp} {g : Hp} {P : Pst} {x1 : Int} {x2 : Int} {x3 : Int} {xs0 : Int} (hn : 100 ≤ n) (h : (0 ≤ x3 ∧ x3 < 8) ∧ (i3 xs0) ∧ (((g 79 x3.toNat) < xs0) → V miX12_isOn (d + 1) 100 [(0, .ref 53), (1, I_ x1), (2, I_ x2), (3, I_ x3)] [] n (W0 dy) g 0 0 P) ∧ ((xs0 ≤ (g 79 x3.toNat)) → (0 ≤ x1 ∧ x1 < 8) ∧ (0 ≤ x2 ∧ x2 < 8) ∧ Runs miJ9_max_7cf53 d [I_ (g 79 x1.toNat), I_ (g 79 x2.toNat)] n (W0 dy) g (fun v n' S' g' => V miX12_isOn (d + 1) 45 [(0, .ref 53), (1, I_ x1), (2, I_ x2), (3, I_ x3)] (v.toList ++ [I_ (g 79 x3.toNat)]) n' S' g' 0 0 P))) : V miX12_isOn (d + 1) 15 [(0, .ref 53), (1, I_ x1), (2, I_ x2), (3, I_ x3)] [I_ xs0] n (W0 dy) g 0 0 P := by
  refine v_aload_n 9 0 rfl rfl rfl ?_
  refine v_gK 10 rfl fl12_88_11.r (al 53 rfl hn) (wk53 dy) (by decide) rfl (r := 79) (wc53_30 dy) ?_
  refine v_iload_n 11 3 rfl rfl rfl ?_
  have c1 := h.1
  have h := h.2
  refine v_ia (N := 8) 12 rfl (al 79 rfl hn) (wk79 dy) (wn79 dy) (by decide) c1 (y := g 79 x3.toNat) rfl ?_
  refine v_rng fun w2 => ?_
  have r3 : i3 (g 79 x3.toNat) := rI w2 (q := x3.toNat) (al 79 rfl hn) (wk79 dy) rfl rfl
  have c4 := h.1
  have h := h.2
  refine v_icmp_gt 13 rfl (tgt := 100) rfl c4 r3 (fun q13 => ?_) (fun q13 => ?_)
  · have h := h.1 q13
    exact h
  · have h := h.2 q13
    refine v_aload_n 14 0 rfl rfl rfl ?_
    refine v_gK 15 rfl fl12_88_11.r (al 53 rfl hn) (wk53 dy) (by decide) rfl (r := 79) (wc53_30 dy) ?_
    refine v_iload_n 16 3 rfl rfl rfl ?_
    refine v_ia (N := 8) 17 rfl (al 79 rfl hn) (wk79 dy) (wn79 dy) (by decide) c1 (y := g 79 x3.toNat) rfl ?_
    refine v_rng fun w5 => ?_
    have r6 : i3 (g 79 x3.toNat) := rI w5 (q := x3.toNat) (al 79 rfl hn) (wk79 dy) rfl rfl
    refine v_aload_n 18 0 rfl rfl rfl ?_
    refine v_gK 19 rfl fl12_88_11.r (al 53 rfl hn) (wk53 dy) (by decide) rfl (r := 79) (wc53_30 dy) ?_
    refine v_iload_n 20 1 rfl rfl rfl ?_
    have c7 := h.1
    have h := h.2
    refine v_ia (N := 8) 21 rfl (al 79 rfl hn) (wk79 dy) (wn79 dy) (by decide) c7 (y := g 79 x1.toNat) rfl ?_
    refine v_rng fun w8 => ?_
    have r9 : i3 (g 79 x1.toNat) := rI w8 (q := x1.toNat) (al 79 rfl hn) (wk79 dy) rfl rfl
    refine v_aload_n 22 0 rfl rfl rfl ?_
    refine v_gK 23 rfl fl12_88_11.r (al 53 rfl hn) (wk53 dy) (by decide) rfl (r := 79) (wc53_30 dy) ?_
    refine v_iload_n 24 2 rfl rfl rfl ?_
    have c10 := h.1
    have h := h.2
    refine v_ia (N := 8) 25 rfl (al 79 rfl hn) (wk79 dy) (wn79 dy) (by decide) c10 (y := g 79 x2.toNat) rfl ?_
    refine v_rng fun w11 => ?_
    have r12 : i3 (g 79 x2.toNat) := rI w11 (q := x2.toNat) (al 79 rfl hn) (wk79 dy) rfl rfl
    refine v_callS (st := [I_ (g 79 x3.toNat)]) [I_ (g 79 x1.toNat), I_ (g 79 x2.toNat)] 26 rfl ls12_193_isOn rfl (Nat.lt_of_lt_of_le (by decide) hn) (Nat.le_refl _) (Nat.le_refl _) ?_
    exact h
set_option maxHeartbeats 8000000 in
set_option maxRecDepth 4000 in
theorem bX12_isOn_45 {d n : Nat} {dy : Nat → Shp} {g : Hp} {P : Pst} {x1 : Int} {x2 : Int} {x3 : Int} {xs0 : Int} {xs1 : Int} (hn : 100 ≤ n) (h : (i3 xs0) ∧ (i3 xs1) ∧ ((xs1 < xs0) → V miX12_isOn (d + 1) 100 [(0, .ref 53), (1, I_ x1), (2, I_ x2), (3, I_ x3)] [] n (W0 dy) g 0 0 P) ∧ ((xs0 ≤ xs1) → (0 ≤ x1 ∧ x1 < 8) ∧ (0 ≤ x2 ∧ x2 < 8) ∧ Runs miJ9_min_7cf53 d [I_ (g 80 x1.toNat), I_ (g 80 x2.toNat)] n (W0 dy) g (fun v n' S' g' => V miX12_isOn (d + 1) 63 [(0, .ref 53), (1, I_ x1), (2, I_ x2), (3, I_ x3)] (v.toList ++ []) n' S' g' 0 0 P))) : V miX12_isOn (d + 1) 45 [(0, .ref 53), (1, I_ x1), (2, I_ x2), (3, I_ x3)] [I_ xs1, I_ xs0] n (W0 dy) g 0 0 P := by
  have c1 := h.1
  have h := h.2
  have c2 := h.1
  have h := h.2
  refine v_icmp_gt 27 rfl (tgt := 100) rfl c1 c2 (fun q9 => ?_) (fun q9 => ?_)
  · have h := h.1 q9
    exact h
  · have h := h.2 q9
    refine v_aload_n 28 0 rfl rfl rfl ?_
    refine v_gK 29 rfl fl12_91_11.r (al 53 rfl hn) (wk53 dy) (by decide) rfl (r := 80) (wc53_31 dy) ?_
    refine v_iload_n 30 1 rfl rfl rfl ?_
    have c3 := h.1
    have h := h.2
    refine v_ia (N := 8) 31 rfl (al 80 rfl hn) (wk80 dy) (wn80 dy) (by decide) c3 (y := g 80 x1.toNat) rfl ?_
    refine v_rng fun w4 => ?_
    have r5 : i3 (g 80 x1.toNat) := rI w4 (q := x1.toNat) (al 80 rfl hn) (wk80 dy) rfl rfl
    refine v_aload_n 32 0 rfl rfl rfl ?_
    refine v_gK 33 rfl fl12_91_11.r (al 53 rfl hn) (wk53 dy) (by decide) rfl (r := 80) (wc53_31 dy) ?_
    refine v_iload_n 34 2 rfl rfl rfl ?_
    have c6 := h.1
    have h := h.2
    refine v_ia (N := 8) 35 rfl (al 80 rfl hn) (wk80 dy) (wn80 dy) (by decide) c6 (y := g 80 x2.toNat) rfl ?_
    refine v_rng fun w7 => ?_
    have r8 : i3 (g 80 x2.toNat) := rI w7 (q := x2.toNat) (al 80 rfl hn) (wk80 dy) rfl rfl
    refine v_callS (st := []) [I_ (g 80 x1.toNat), I_ (g 80 x2.toNat)] 36 rfl ls12_188_isOn rfl (Nat.lt_of_lt_of_le (by decide) hn) (Nat.le_refl _) (Nat.le_refl _) ?_
    exact h
set_option maxHeartbeats 8000000 in
set_option maxRecDepth 4000 in
theorem bX12_isOn_63 {d n : Nat} {dy : Nat → Shp} {g : Hp} {P : Pst} {x1 : Int} {x2 : Int} {x3 : Int} {xs0 : Int} (hn : 100 ≤ n) (h : (0 ≤ x3 ∧ x3 < 8) ∧ (i3 xs0) ∧ (((g 80 x3.toNat) < xs0) → V miX12_isOn (d + 1) 100 [(0, .ref 53), (1, I_ x1), (2, I_ x2), (3, I_ x3)] [] n (W0 dy) g 0 0 P) ∧ ((xs0 ≤ (g 80 x3.toNat)) → (0 ≤ x1 ∧ x1 < 8) ∧ (0 ≤ x2 ∧ x2 < 8) ∧ Runs miJ9_max_7cf53 d [I_ (g 80 x1.toNat), I_ (g 80 x2.toNat)] n (W0 dy) g (fun v n' S' g' => V miX12_isOn (d + 1) 93 [(0, .ref 53), (1, I_ x1), (2, I_ x2), (3, I_ x3)] (v.toList ++ [I_ (g 80 x3.toNat)]) n' S' g' 0 0 P))) : V miX12_isOn (d + 1) 63 [(0, .ref 53), (1, I_ x1), (2, I_ x2), (3, I_ x3)] [I_ xs0] n (W0 dy) g 0 0 P := by
  refine v_aload_n 37 0 rfl rfl rfl ?_
  refine v_gK 38 rfl fl12_91_11.r (al 53 rfl hn) (wk53 dy) (by decide) rfl (r := 80) (wc53_31 dy) ?_
  refine v_iload_n 39 3 rfl rfl rfl ?_
  have c1 := h.1
  have h := h.2
  refine v_ia (N := 8) 40 rfl (al 80 rfl hn) (wk80 dy) (wn80 dy) (by decide) c1 (y := g 80 x3.toNat) rfl ?_
  refine v_rng fun w2 => ?_
  have r3 : i3 (g 80 x3.toNat) := rI w2 (q := x3.toNat) (al 80 rfl hn) (wk80 dy) rfl rfl
  have c4 := h.1
  have h := h.2
  refine v_icmp_gt 41 rfl (tgt := 100) rfl c4 r3 (fun q13 => ?_) (fun q13 => ?_)
  · have h := h.1 q13
    exact h
  · have h := h.2 q13
    refine v_aload_n 42 0 rfl rfl rfl ?_
    refine v_gK 43 rfl fl12_91_11.r (al 53 rfl hn) (wk53 dy) (by decide) rfl (r := 80) (wc53_31 dy) ?_
    refine v_iload_n 44 3 rfl rfl rfl ?_
    refine v_ia (N := 8) 45 rfl (al 80 rfl hn) (wk80 dy) (wn80 dy) (by decide) c1 (y := g 80 x3.toNat) rfl ?_
    refine v_rng fun w5 => ?_
    have r6 : i3 (g 80 x3.toNat) := rI w5 (q := x3.toNat) (al 80 rfl hn) (wk80 dy) rfl rfl
    refine v_aload_n 46 0 rfl rfl rfl ?_
    refine v_gK 47 rfl fl12_91_11.r (al 53 rfl hn) (wk53 dy) (by decide) rfl (r := 80) (wc53_31 dy) ?_
    refine v_iload_n 48 1 rfl rfl rfl ?_
    have c7 := h.1
    have h := h.2
    refine v_ia (N := 8) 49 rfl (al 80 rfl hn) (wk80 dy) (wn80 dy) (by decide) c7 (y := g 80 x1.toNat) rfl ?_
    refine v_rng fun w8 => ?_
    have r9 : i3 (g 80 x1.toNat) := rI w8 (q := x1.toNat) (al 80 rfl hn) (wk80 dy) rfl rfl
    refine v_aload_n 50 0 rfl rfl rfl ?_
    refine v_gK 51 rfl fl12_91_11.r (al 53 rfl hn) (wk53 dy) (by decide) rfl (r := 80) (wc53_31 dy) ?_
    refine v_iload_n 52 2 rfl rfl rfl ?_
    have c10 := h.1
    have h := h.2
    refine v_ia (N := 8) 53 rfl (al 80 rfl hn) (wk80 dy) (wn80 dy) (by decide) c10 (y := g 80 x2.toNat) rfl ?_
    refine v_rng fun w11 => ?_
    have r12 : i3 (g 80 x2.toNat) := rI w11 (q := x2.toNat) (al 80 rfl hn) (wk80 dy) rfl rfl
    refine v_callS (st := [I_ (g 80 x3.toNat)]) [I_ (g 80 x1.toNat), I_ (g 80 x2.toNat)] 54 rfl ls12_193_isOn rfl (Nat.lt_of_lt_of_le (by decide) hn) (Nat.le_refl _) (Nat.le_refl _) ?_
    exact h
set_option maxHeartbeats 8000000 in
set_option maxRecDepth 4000 in
theorem bX12_isOn_93 {d n : Nat} {dy : Nat → Shp} {g : Hp} {P : Pst} {x1 : Int} {x2 : Int} {x3 : Int} {xs0 : Int} {xs1 : Int} (hn : 100 ≤ n) (h : (i3 xs0) ∧ (i3 xs1) ∧ ((xs1 < xs0) → V miX12_isOn (d + 1) 100 [(0, .ref 53), (1, I_ x1), (2, I_ x2), (3, I_ x3)] [] n (W0 dy) g 0 0 P) ∧ ((xs0 ≤ xs1) → V miX12_isOn (d + 1) 101 [(0, .ref 53), (1, I_ x1), (2, I_ x2), (3, I_ x3)] [I_ 1] n (W0 dy) g 0 0 P)) : V miX12_isOn (d + 1) 93 [(0, .ref 53), (1, I_ x1), (2, I_ x2), (3, I_ x3)] [I_ xs1, I_ xs0] n (W0 dy) g 0 0 P := by
  have c1 := h.1
  have h := h.2
  have c2 := h.1
  have h := h.2
  refine v_icmp_gt 55 rfl (tgt := 100) rfl c1 c2 (fun q3 => ?_) (fun q3 => ?_)
  · have h := h.1 q3
    exact h
  · have h := h.2 q3
    refine v_iconst 56 rfl ?_
    refine v_goto 57 rfl (tgt := 101) rfl ?_
    exact h
set_option maxHeartbeats 8000000 in
set_option maxRecDepth 4000 in
theorem bX12_isOn_100 {d n : Nat} {dy : Nat → Shp} {g : Hp} {P : Pst} {x1 : Int} {x2 : Int} {x3 : Int} (hn : 100 ≤ n) (h : V miX12_isOn (d + 1) 101 [(0, .ref 53), (1, I_ x1), (2, I_ x2), (3, I_ x3)] [I_ 0] n (W0 dy) g 0 0 P) : V miX12_isOn (d + 1) 100 [(0, .ref 53), (1, I_ x1), (2, I_ x2), (3, I_ x3)] [] n (W0 dy) g 0 0 P := by
  refine v_iconst 58 rfl ?_
  exact h
set_option maxHeartbeats 8000000 in
set_option maxRecDepth 4000 in
theorem bX12_isOn_101 {d n : Nat} {dy : Nat → Shp} {g : Hp} {P : Pst} {x1 : Int} {x2 : Int} {x3 : Int} {xs0 : Int} (hn : 100 ≤ n) (h : (i3 xs0) ∧ ((xs0 = 0) → V miX12_isOn (d + 1) 124 [(0, .ref 53), (1, I_ x1), (2, I_ x2), (3, I_ x3), (4, I_ xs0)] [] n (W0 dy) g 0 0 P) ∧ ((xs0 ≠ 0) → Runs miX12_turn d [.ref 53, I_ x1, I_ x2, I_ x3] n (W0 dy) g (fun v n' S' g' => V miX12_isOn (d + 1) 115 [(0, .ref 53), (1, I_ x1), (2, I_ x2), (3, I_ x3), (4, I_ xs0)] (v.toList ++ []) n' S' g' 0 0 P))) : V miX12_isOn (d + 1) 101 [(0, .ref 53), (1, I_ x1), (2, I_ x2), (3, I_ x3)] [I_ xs0] n (W0 dy) g 0 0 P := by
  refine v_istore 59 [1, 2, 3, 4, 0] rfl (by decide) rfl ?_
  refine v_iload 60 4 rfl rfl ?_
  have c1 := h.1
  have h := h.2
  refine v_if_eq 61 rfl (tgt := 124) rfl c1 (fun q2 => ?_) (fun q2 => ?_)
  · have h := h.1 q2
    exact h
  · have h := h.2 q2
    refine v_aload_n 62 0 rfl rfl rfl ?_
    refine v_iload_n 63 1 rfl rfl rfl ?_
    refine v_iload_n 64 2 rfl rfl rfl ?_
    refine v_iload_n 65 3 rfl rfl rfl ?_
    refine v_callV (st := []) [I_ x1, I_ x2, I_ x3] 66 rfl lv12_196_isOn_11 (al 53 rfl hn) (wk53 dy) (by decide) rfl (Nat.le_refl _) (Nat.le_refl _) ?_
    exact h
set_option maxHeartbeats 8000000 in
set_option maxRecDepth 4000 in
theorem bX12_isOn_115 {d n : Nat} {dy : Nat → Shp} {g : Hp} {P : Pst} {x1 : Int} {x2 : Int} {x3 : Int} {x4 : Int} {xs0 : Int} (hn : 100 ≤ n) (h : (i6 xs0) ∧ ((xs0 ≠ 0) → V miX12_isOn (d + 1) 124 [(0, .ref 53), (1, I_ x1), (2, I_ x2), (3, I_ x3), (4, I_ x4)] [] n (W0 dy) g 0 0 P) ∧ ((xs0 = 0) → V miX12_isOn (d + 1) 125 [(0, .ref 53), (1, I_ x1), (2, I_ x2), (3, I_ x3), (4, I_ x4)] [I_ 1] n (W0 dy) g 0 0 P)) : V miX12_isOn (d + 1) 115 [(0, .ref 53), (1, I_ x1), (2, I_ x2), (3, I_ x3), (4, I_ x4)] [L_ xs0] n (W0 dy) g 0 0 P := by
  refine v_lconst (v := 0) 67 rfl (by decide) ?_
  have c1 := h.1
  have h := h.2
  refine v_lif_ne 68 rfl rfl (tgt := 124) rfl c1 (by decide) (fun q2 => ?_) (fun q2 => ?_)
  · have h := h.1 q2
    exact h
  · have h := h.2 q2
    refine v_iconst 70 rfl ?_
    refine v_goto 71 rfl (tgt := 125) rfl ?_
    exact h
set_option maxHeartbeats 8000000 in
set_option maxRecDepth 4000 in
theorem bX12_isOn_124 {d n : Nat} {dy : Nat → Shp} {g : Hp} {P : Pst} {x1 : Int} {x2 : Int} {x3 : Int} {x4 : Int} (hn : 100 ≤ n) (h : V miX12_isOn (d + 1) 125 [(0, .ref 53), (1, I_ x1), (2, I_ x2), (3, I_ x3), (4, I_ x4)] [I_ 0] n (W0 dy) g 0 0 P) : V miX12_isOn (d + 1) 124 [(0, .ref 53), (1, I_ x1), (2, I_ x2), (3, I_ x3), (4, I_ x4)] [] n (W0 dy) g 0 0 P := by
  refine v_iconst 72 rfl ?_
  exact h
set_option maxHeartbeats 8000000 in
set_option maxRecDepth 4000 in
theorem bX12_isOn_125 {d n : Nat} {dy : Nat → Shp} {g : Hp} {P : Pst} {x1 : Int} {x2 : Int} {x3 : Int} {x4 : Int} {xs0 : Int} (hn : 100 ≤ n) (h : (xs0 = 0 ∨ xs0 = 1) ∧ P (some (I_ xs0)) n (W0 dy) g) : V miX12_isOn (d + 1) 125 [(0, .ref 53), (1, I_ x1), (2, I_ x2), (3, I_ x3), (4, I_ x4)] [I_ xs0] n (W0 dy) g 0 0 P := by
  have c1 := h.1
  have h := h.2
  exact v_ret (v := some (I_ xs0)) 73 rfl (Nat.zero_le _) (Nat.zero_le _) (rokZ c1) rfl h
set_option maxHeartbeats 8000000 in
set_option maxRecDepth 4000 in
theorem bX12_sign_0 {d n : Nat} {dy : Nat → Shp} {g : Hp} {P : Pst} {x0 : Int} (hn : 100 ≤ n) (h : (i6 x0) ∧ ((0 ≤ x0) → ((x0 ≤ 0) → V miX12_sign d 21 [(0, L_ x0)] [I_ 0] n (W0 dy) g 0 0 P) ∧ ((0 < x0) → V miX12_sign d 21 [(0, L_ x0)] [I_ 1] n (W0 dy) g 0 0 P)) ∧ ((x0 < 0) → V miX12_sign d 21 [(0, L_ x0)] [I_ ((-1))] n (W0 dy) g 0 0 P)) : V miX12_sign d 0 [(0, L_ x0)] [] n (W0 dy) g 0 0 P := by
  refine v_lload_n 0 0 rfl rfl rfl ?_
  refine v_lconst (v := 0) 1 rfl (by decide) ?_
  have c1 := h.1
  have h := h.2
  refine v_lif_ge 2 rfl rfl (tgt := 10) rfl c1 (by decide) (fun q3 => ?_) (fun q3 => ?_)
  · have h := h.1 q3
    refine v_lload_n 6 0 rfl rfl rfl ?_
    refine v_lconst (v := 0) 7 rfl (by decide) ?_
    refine v_lif_le 8 rfl rfl (tgt := 20) rfl c1 (by decide) (fun q2 => ?_) (fun q2 => ?_)
    · have h := h.1 q2
      refine v_iconst 12 rfl ?_
      exact h
    · have h := h.2 q2
      refine v_iconst 10 rfl ?_
      refine v_goto 11 rfl (tgt := 21) rfl ?_
      exact h
  · have h := h.2 q3
    refine v_iconst 4 rfl ?_
    refine v_goto 5 rfl (tgt := 21) rfl ?_
    exact h
set_option maxHeartbeats 8000000 in
set_option maxRecDepth 4000 in
theorem bX12_sign_21 {d n : Nat} {dy : Nat → Shp} {g : Hp} {P : Pst} {x0 : Int} {xs0 : Int} (hn : 100 ≤ n) (h : P (some (I_ xs0)) n (W0 dy) g) : V miX12_sign d 21 [(0, L_ x0)] [I_ xs0] n (W0 dy) g 0 0 P := by
  exact v_ret (v := some (I_ xs0)) 13 rfl (Nat.zero_le _) (Nat.zero_le _) trivial rfl h
theorem lv12_200_touches_11 : LkV miX12_touches miX12_isOn 200 3 11 := ⟨⟨⟨tbG_in (List.mem_append_right _ (List.mem_of_getElem? (i := 1378) (by decide +kernel))) rfl, tbG_in (List.mem_append_right _ (List.mem_of_getElem? (i := 9) (by decide +kernel))) rfl, tbG_in (List.mem_append_right _ (List.mem_of_getElem? (i := 1375) (by decide +kernel))) rfl⟩, ⟨by decide +kernel, by decide +kernel, by decide +kernel⟩, by decide⟩, tbG_in (List.mem_append_right _ (List.mem_of_getElem? (i := 1377) (by decide +kernel))) rfl, RX12, TX12, 58, rfl, tbG_in (List.mem_append_left _ (List.mem_of_getElem? (i := 53) (by decide +kernel))) rfl⟩
theorem lv12_196_touches_11 : LkV miX12_touches miX12_turn 196 3 11 := ⟨⟨⟨tbG_in (List.mem_append_right _ (List.mem_of_getElem? (i := 1384) (by decide +kernel))) rfl, tbG_in (List.mem_append_right _ (List.mem_of_getElem? (i := 9) (by decide +kernel))) rfl, tbG_in (List.mem_append_right _ (List.mem_of_getElem? (i := 1381) (by decide +kernel))) rfl⟩, ⟨by decide +kernel, by decide +kernel, by decide +kernel⟩, by decide⟩, tbG_in (List.mem_append_right _ (List.mem_of_getElem? (i := 1383) (by decide +kernel))) rfl, RX12, TX12, 58, rfl, tbG_in (List.mem_append_left _ (List.mem_of_getElem? (i := 54) (by decide +kernel))) rfl⟩
theorem ls12_204_touches : LkS miX12_touches miX12_sign 204 1 := ⟨⟨⟨tbG_in (List.mem_append_right _ (List.mem_of_getElem? (i := 1391) (by decide +kernel))) rfl, tbG_in (List.mem_append_right _ (List.mem_of_getElem? (i := 9) (by decide +kernel))) rfl, tbG_in (List.mem_append_right _ (List.mem_of_getElem? (i := 1389) (by decide +kernel))) rfl⟩, ⟨by decide +kernel, by decide +kernel, by decide +kernel⟩, by decide⟩, tbG_in (List.mem_append_right _ (List.mem_of_getElem? (i := 1390) (by decide +kernel))) rfl⟩
set_option maxHeartbeats 8000000 in
set_option maxRecDepth 4000 in
theorem bX12_touches_0 {d n : Nat} {dy : Nat → Shp} {g : Hp} {P : Pst} {x1 : Int} {x2 : Int} {x3 : Int} {x4 : Int} (hn : 100 ≤ n) (h : Runs miX12_isOn d [.ref 53, I_ x1, I_ x2, I_ x3] n (W0 dy) g (fun v n' S' g' => V miX12_touches (d + 1) 7 [(0, .ref 53), (1, I_ x1), (2, I_ x2), (3, I_ x3), (4, I_ x4)] (v.toList ++ []) n' S' g' 0 0 P)) : V miX12_touches (d + 1) 0 [(0, .ref 53), (1, I_ x1), (2, I_ x2), (3, I_ x3), (4, I_ x4)] [] n (W0 dy) g 0 0 P := by
  refine v_aload_n 0 0 rfl rfl rfl ?_
  refine v_iload_n 1 1 rfl rfl rfl ?_
  refine v_iload_n 2 2 rfl rfl rfl ?_
  refine v_iload_n 3 3 rfl rfl rfl ?_
  refine v_callV (st := []) [I_ x1, I_ x2, I_ x3] 4 rfl lv12_200_touches_11 (al 53 rfl hn) (wk53 dy) (by decide) rfl (Nat.le_refl _) (Nat.le_refl _) ?_
  exact h
set_option maxHeartbeats 8000000 in
set_option maxRecDepth 4000 in
theorem bX12_touches_7 {d n : Nat} {dy : Nat → Shp} {g : Hp} {P : Pst} {x1 : Int} {x2 : Int} {x3 : Int} {x4 : Int} {xs0 : Int} (hn : 100 ≤ n) (h : (i3 xs0) ∧ ((xs0 ≠ 0) → V miX12_touches (d + 1) 43 [(0, .ref 53), (1, I_ x1), (2, I_ x2), (3, I_ x3), (4, I_ x4)] [] n (W0 dy) g 0 0 P) ∧ ((xs0 = 0) → Runs miX12_isOn d [.ref 53, I_ x1, I_ x2, I_ x4] n (W0 dy) g (fun v n' S' g' => V miX12_touches (d + 1) 18 [(0, .ref 53), (1, I_ x1), (2, I_ x2), (3, I_ x3), (4, I_ x4)] (v.toList ++ []) n' S' g' 0 0 P))) : V miX12_touches (d + 1) 7 [(0, .ref 53), (1, I_ x1), (2, I_ x2), (3, I_ x3), (4, I_ x4)] [I_ xs0] n (W0 dy) g 0 0 P := by
  have c1 := h.1
  have h := h.2
  refine v_if_ne 5 rfl (tgt := 43) rfl c1 (fun q2 => ?_) (fun q2 => ?_)
  · have h := h.1 q2
    exact h
  · have h := h.2 q2
    refine v_aload_n 6 0 rfl rfl rfl ?_
    refine v_iload_n 7 1 rfl rfl rfl ?_
    refine v_iload_n 8 2 rfl rfl rfl ?_
    refine v_iload 9 4 rfl rfl ?_
    refine v_callV (st := []) [I_ x1, I_ x2, I_ x4] 10 rfl lv12_200_touches_11 (al 53 rfl hn) (wk53 dy) (by decide) rfl (Nat.le_refl _) (Nat.le_refl _) ?_
    exact h
set_option maxHeartbeats 8000000 in
set_option maxRecDepth 4000 in
theorem bX12_touches_18 {d n : Nat} {dy : Nat → Shp} {g : Hp} {P : Pst} {x1 : Int} {x2 : Int} {x3 : Int} {x4 : Int} {xs0 : Int} (hn : 100 ≤ n) (h : (i3 xs0) ∧ ((xs0 ≠ 0) → V miX12_touches (d + 1) 43 [(0, .ref 53), (1, I_ x1), (2, I_ x2), (3, I_ x3), (4, I_ x4)] [] n (W0 dy) g 0 0 P) ∧ ((xs0 = 0) → Runs miX12_isOn d [.ref 53, I_ x3, I_ x4, I_ x1] n (W0 dy) g (fun v n' S' g' => V miX12_touches (d + 1) 29 [(0, .ref 53), (1, I_ x1), (2, I_ x2), (3, I_ x3), (4, I_ x4)] (v.toList ++ []) n' S' g' 0 0 P))) : V miX12_touches (d + 1) 18 [(0, .ref 53), (1, I_ x1), (2, I_ x2), (3, I_ x3), (4, I_ x4)] [I_ xs0] n (W0 dy) g 0 0 P := by
  have c1 := h.1
  have h := h.2
  refine v_if_ne 11 rfl (tgt := 43) rfl c1 (fun q2 => ?_) (fun q2 => ?_)
  · have h := h.1 q2
    exact h
  · have h := h.2 q2
    refine v_aload_n 12 0 rfl rfl rfl ?_
    refine v_iload_n 13 3 rfl rfl rfl ?_
    refine v_iload 14 4 rfl rfl ?_
    refine v_iload_n 15 1 rfl rfl rfl ?_
    refine v_callV (st := []) [I_ x3, I_ x4, I_ x1] 16 rfl lv12_200_touches_11 (al 53 rfl hn) (wk53 dy) (by decide) rfl (Nat.le_refl _) (Nat.le_refl _) ?_
    exact h
set_option maxHeartbeats 8000000 in
set_option maxRecDepth 4000 in
theorem bX12_touches_29 {d n : Nat} {dy : Nat → Shp} {g : Hp} {P : Pst} {x1 : Int} {x2 : Int} {x3 : Int} {x4 : Int} {xs0 : Int} (hn : 100 ≤ n) (h : (i3 xs0) ∧ ((xs0 ≠ 0) → V miX12_touches (d + 1) 43 [(0, .ref 53), (1, I_ x1), (2, I_ x2), (3, I_ x3), (4, I_ x4)] [] n (W0 dy) g 0 0 P) ∧ ((xs0 = 0) → Runs miX12_isOn d [.ref 53, I_ x3, I_ x4, I_ x2] n (W0 dy) g (fun v n' S' g' => V miX12_touches (d + 1) 40 [(0, .ref 53), (1, I_ x1), (2, I_ x2), (3, I_ x3), (4, I_ x4)] (v.toList ++ []) n' S' g' 0 0 P))) : V miX12_touches (d + 1) 29 [(0, .ref 53), (1, I_ x1), (2, I_ x2), (3, I_ x3), (4, I_ x4)] [I_ xs0] n (W0 dy) g 0 0 P := by
  have c1 := h.1
  have h := h.2
  refine v_if_ne 17 rfl (tgt := 43) rfl c1 (fun q2 => ?_) (fun q2 => ?_)
  · have h := h.1 q2
    exact h
  · have h := h.2 q2
    refine v_aload_n 18 0 rfl rfl rfl ?_
    refine v_iload_n 19 3 rfl rfl rfl ?_
    refine v_iload 20 4 rfl rfl ?_
    refine v_iload_n 21 2 rfl rfl rfl ?_
    refine v_callV (st := []) [I_ x3, I_ x4, I_ x2] 22 rfl lv12_200_touches_11 (al 53 rfl hn) (wk53 dy) (by decide) rfl (Nat.le_refl _) (Nat.le_refl _) ?_
    exact h
set_option maxHeartbeats 8000000 in
set_option maxRecDepth 4000 in
theorem bX12_touches_40 {d n : Nat} {dy : Nat → Shp} {g : Hp} {P : Pst} {x1 : Int} {x2 : Int} {x3 : Int} {x4 : Int} {xs0 : Int} (hn : 100 ≤ n) (h : (i3 xs0) ∧ ((xs0 = 0) → Runs miX12_turn d [.ref 53, I_ x1, I_ x2, I_ x3] n (W0 dy) g (fun v n' S' g' => V miX12_touches (d + 1) 52 [(0, .ref 53), (1, I_ x1), (2, I_ x2), (3, I_ x3), (4, I_ x4)] (v.toList ++ []) n' S' g' 0 0 P)) ∧ ((xs0 ≠ 0) → V miX12_touches (d + 1) 43 [(0, .ref 53), (1, I_ x1), (2, I_ x2), (3, I_ x3), (4, I_ x4)] [] n (W0 dy) g 0 0 P)) : V miX12_touches (d + 1) 40 [(0, .ref 53), (1, I_ x1), (2, I_ x2), (3, I_ x3), (4, I_ x4)] [I_ xs0] n (W0 dy) g 0 0 P := by
  have c1 := h.1
  have h := h.2
  refine v_if_eq 23 rfl (tgt := 45) rfl c1 (fun q2 => ?_) (fun q2 => ?_)
  · have h := h.1 q2
    refine v_aload_n 26 0 rfl rfl rfl ?_
    refine v_iload_n 27 1 rfl rfl rfl ?_
    refine v_iload_n 28 2 rfl rfl rfl ?_
    refine v_iload_n 29 3 rfl rfl rfl ?_
    refine v_callV (st := []) [I_ x1, I_ x2, I_ x3] 30 rfl lv12_196_touches_11 (al 53 rfl hn) (wk53 dy) (by decide) rfl (Nat.le_refl _) (Nat.le_refl _) ?_
    exact h
  · have h := h.2 q2
    exact h
set_option maxHeartbeats 8000000 in
set_option maxRecDepth 4000 in
theorem bX12_touches_43 {d n : Nat} {dy : Nat → Shp} {g : Hp} {P : Pst} {x1 : Int} {x2 : Int} {x3 : Int} {x4 : Int} (hn : 100 ≤ n) (h : P (some (I_ 1)) n (W0 dy) g) : V miX12_touches (d + 1) 43 [(0, .ref 53), (1, I_ x1), (2, I_ x2), (3, I_ x3), (4, I_ x4)] [] n (W0 dy) g 0 0 P := by
  refine v_iconst 24 rfl ?_
  exact v_ret (v := some (I_ 1)) 25 rfl (Nat.zero_le _) (Nat.zero_le _) (Or.inr rfl) rfl h
set_option maxHeartbeats 8000000 in
set_option maxRecDepth 4000 in
theorem bX12_touches_52 {d n : Nat} {dy : Nat → Shp} {g : Hp} {P : Pst} {x1 : Int} {x2 : Int} {x3 : Int} {x4 : Int} {xs0 : Int} (hn : 100 ≤ n) (h : Runs miX12_sign d [L_ xs0] n (W0 dy) g (fun v n' S' g' => V miX12_touches (d + 1) 55 [(0, .ref 53), (1, I_ x1), (2, I_ x2), (3, I_ x3), (4, I_ x4)] (v.toList ++ []) n' S' g' 0 0 P)) : V miX12_touches (d + 1) 52 [(0, .ref 53), (1, I_ x1), (2, I_ x2), (3, I_ x3), (4, I_ x4)] [L_ xs0] n (W0 dy) g 0 0 P := by
  refine v_callS (st := []) [L_ xs0] 31 rfl ls12_204_touches rfl (Nat.lt_of_lt_of_le (by decide) hn) (Nat.le_refl _) (Nat.le_refl _) ?_
  exact h
set_option maxHeartbeats 8000000 in
set_option maxRecDepth 4000 in
theorem bX12_touches_55 {d n : Nat} {dy : Nat → Shp} {g : Hp} {P : Pst} {x1 : Int} {x2 : Int} {x3 : Int} {x4 : Int} {xs0 : Int} (hn : 100 ≤ n) (h : Runs miX12_turn d [.ref 53, I_ x1, I_ x2, I_ x4] n (W0 dy) g (fun v n' S' g' => V miX12_touches (d + 1) 63 [(0, .ref 53), (1, I_ x1), (2, I_ x2), (3, I_ x3), (4, I_ x4)] (v.toList ++ [I_ xs0]) n' S' g' 0 0 P)) : V miX12_touches (d + 1) 55 [(0, .ref 53), (1, I_ x1), (2, I_ x2), (3, I_ x3), (4, I_ x4)] [I_ xs0] n (W0 dy) g 0 0 P := by
  refine v_aload_n 32 0 rfl rfl rfl ?_
  refine v_iload_n 33 1 rfl rfl rfl ?_
  refine v_iload_n 34 2 rfl rfl rfl ?_
  refine v_iload 35 4 rfl rfl ?_
  refine v_callV (st := [I_ xs0]) [I_ x1, I_ x2, I_ x4] 36 rfl lv12_196_touches_11 (al 53 rfl hn) (wk53 dy) (by decide) rfl (Nat.le_refl _) (Nat.le_refl _) ?_
  exact h
set_option maxHeartbeats 8000000 in
set_option maxRecDepth 4000 in
theorem bX12_touches_63 {d n : Nat} {dy : Nat → Shp} {g : Hp} {P : Pst} {x1 : Int} {x2 : Int} {x3 : Int} {x4 : Int} {xs0 : Int} {xs1 : Int} (hn : 100 ≤ n) (h : Runs miX12_sign d [L_ xs1] n (W0 dy) g (fun v n' S' g' => V miX12_touches (d + 1) 66 [(0, .ref 53), (1, I_ x1), (2, I_ x2), (3, I_ x3), (4, I_ x4)] (v.toList ++ [I_ xs0]) n' S' g' 0 0 P)) : V miX12_touches (d + 1) 63 [(0, .ref 53), (1, I_ x1), (2, I_ x2), (3, I_ x3), (4, I_ x4)] [L_ xs1, I_ xs0] n (W0 dy) g 0 0 P := by
  refine v_callS (st := [I_ xs0]) [L_ xs1] 37 rfl ls12_204_touches rfl (Nat.lt_of_lt_of_le (by decide) hn) (Nat.le_refl _) (Nat.le_refl _) ?_
  exact h
set_option maxHeartbeats 8000000 in
set_option maxRecDepth 4000 in
theorem bX12_touches_66 {d n : Nat} {dy : Nat → Shp} {g : Hp} {P : Pst} {x1 : Int} {x2 : Int} {x3 : Int} {x4 : Int} {xs0 : Int} {xs1 : Int} (hn : 100 ≤ n) (h : (i3 (xs0 * xs1)) ∧ ((0 ≤ (xs0 * xs1)) → V miX12_touches (d + 1) 100 [(0, .ref 53), (1, I_ x1), (2, I_ x2), (3, I_ x3), (4, I_ x4)] [] n (W0 dy) g 0 0 P) ∧ (((xs0 * xs1) < 0) → Runs miX12_turn d [.ref 53, I_ x3, I_ x4, I_ x1] n (W0 dy) g (fun v n' S' g' => V miX12_touches (d + 1) 78 [(0, .ref 53), (1, I_ x1), (2, I_ x2), (3, I_ x3), (4, I_ x4)] (v.toList ++ []) n' S' g' 0 0 P))) : V miX12_touches (d + 1) 66 [(0, .ref 53), (1, I_ x1), (2, I_ x2), (3, I_ x3), (4, I_ x4)] [I_ xs1, I_ xs0] n (W0 dy) g 0 0 P := by
  refine v_imul 38 rfl ?_
  have c1 := h.1
  have h := h.2
  refine v_if_ge 39 rfl (tgt := 100) rfl c1 (fun q2 => ?_) (fun q2 => ?_)
  · have h := h.1 q2
    exact h
  · have h := h.2 q2
    refine v_aload_n 40 0 rfl rfl rfl ?_
    refine v_iload_n 41 3 rfl rfl rfl ?_
    refine v_iload 42 4 rfl rfl ?_
    refine v_iload_n 43 1 rfl rfl rfl ?_
    refine v_callV (st := []) [I_ x3, I_ x4, I_ x1] 44 rfl lv12_196_touches_11 (al 53 rfl hn) (wk53 dy) (by decide) rfl (Nat.le_refl _) (Nat.le_refl _) ?_
    exact h
set_option maxHeartbeats 8000000 in
set_option maxRecDepth 4000 in
theorem bX12_touches_78 {d n : Nat} {dy : Nat → Shp} {g : Hp} {P : Pst} {x1 : Int} {x2 : Int} {x3 : Int} {x4 : Int} {xs0 : Int} (hn : 100 ≤ n) (h : Runs miX12_sign d [L_ xs0] n (W0 dy) g (fun v n' S' g' => V miX12_touches (d + 1) 81 [(0, .ref 53), (1, I_ x1), (2, I_ x2), (3, I_ x3), (4, I_ x4)] (v.toList ++ []) n' S' g' 0 0 P)) : V miX12_touches (d + 1) 78 [(0, .ref 53), (1, I_ x1), (2, I_ x2), (3, I_ x3), (4, I_ x4)] [L_ xs0] n (W0 dy) g 0 0 P := by
  refine v_callS (st := []) [L_ xs0] 45 rfl ls12_204_touches rfl (Nat.lt_of_lt_of_le (by decide) hn) (Nat.le_refl _) (Nat.le_refl _) ?_
  exact h
set_option maxHeartbeats 8000000 in
set_option maxRecDepth 4000 in
theorem bX12_touches_81 {d n : Nat} {dy : Nat → Shp} {g : Hp} {P : Pst} {x1 : Int} {x2 : Int} {x3 : Int} {x4 : Int} {xs0 : Int} (hn : 100 ≤ n) (h : Runs miX12_turn d [.ref 53, I_ x3, I_ x4, I_ x2] n (W0 dy) g (fun v n' S' g' => V miX12_touches (d + 1) 89 [(0, .ref 53), (1, I_ x1), (2, I_ x2), (3, I_ x3), (4, I_ x4)] (v.toList ++ [I_ xs0]) n' S' g' 0 0 P)) : V miX12_touches (d + 1) 81 [(0, .ref 53), (1, I_ x1), (2, I_ x2), (3, I_ x3), (4, I_ x4)] [I_ xs0] n (W0 dy) g 0 0 P := by
  refine v_aload_n 46 0 rfl rfl rfl ?_
  refine v_iload_n 47 3 rfl rfl rfl ?_
  refine v_iload 48 4 rfl rfl ?_
  refine v_iload_n 49 2 rfl rfl rfl ?_
  refine v_callV (st := [I_ xs0]) [I_ x3, I_ x4, I_ x2] 50 rfl lv12_196_touches_11 (al 53 rfl hn) (wk53 dy) (by decide) rfl (Nat.le_refl _) (Nat.le_refl _) ?_
  exact h
set_option maxHeartbeats 8000000 in
set_option maxRecDepth 4000 in
theorem bX12_touches_89 {d n : Nat} {dy : Nat → Shp} {g : Hp} {P : Pst} {x1 : Int} {x2 : Int} {x3 : Int} {x4 : Int} {xs0 : Int} {xs1 : Int} (hn : 100 ≤ n) (h : Runs miX12_sign d [L_ xs1] n (W0 dy) g (fun v n' S' g' => V miX12_touches (d + 1) 92 [(0, .ref 53), (1, I_ x1), (2, I_ x2), (3, I_ x3), (4, I_ x4)] (v.toList ++ [I_ xs0]) n' S' g' 0 0 P)) : V miX12_touches (d + 1) 89 [(0, .ref 53), (1, I_ x1), (2, I_ x2), (3, I_ x3), (4, I_ x4)] [L_ xs1, I_ xs0] n (W0 dy) g 0 0 P := by
  refine v_callS (st := [I_ xs0]) [L_ xs1] 51 rfl ls12_204_touches rfl (Nat.lt_of_lt_of_le (by decide) hn) (Nat.le_refl _) (Nat.le_refl _) ?_
  exact h
set_option maxHeartbeats 8000000 in
set_option maxRecDepth 4000 in
theorem bX12_touches_92 {d n : Nat} {dy : Nat → Shp} {g : Hp} {P : Pst} {x1 : Int} {x2 : Int} {x3 : Int} {x4 : Int} {xs0 : Int} {xs1 : Int} (hn : 100 ≤ n) (h : (i3 (xs0 * xs1)) ∧ ((0 ≤ (xs0 * xs1)) → V miX12_touches (d + 1) 100 [(0, .ref 53), (1, I_ x1), (2, I_ x2), (3, I_ x3), (4, I_ x4)] [] n (W0 dy) g 0 0 P) ∧ (((xs0 * xs1) < 0) → V miX12_touches (d + 1) 101 [(0, .ref 53), (1, I_ x1), (2, I_ x2), (3, I_ x3), (4, I_ x4)] [I_ 1] n (W0 dy) g 0 0 P)) : V miX12_touches (d + 1) 92 [(0, .ref 53), (1, I_ x1), (2, I_ x2), (3, I_ x3), (4, I_ x4)] [I_ xs1, I_ xs0] n (W0 dy) g 0 0 P := by
  refine v_imul 52 rfl ?_
  have c1 := h.1
  have h := h.2
  refine v_if_ge 53 rfl (tgt := 100) rfl c1 (fun q2 => ?_) (fun q2 => ?_)
  · have h := h.1 q2
    exact h
  · have h := h.2 q2
    refine v_iconst 54 rfl ?_
    refine v_goto 55 rfl (tgt := 101) rfl ?_
    exact h
set_option maxHeartbeats 8000000 in
set_option maxRecDepth 4000 in
theorem bX12_touches_100 {d n : Nat} {dy : Nat → Shp} {g : Hp} {P : Pst} {x1 : Int} {x2 : Int} {x3 : Int} {x4 : Int} (hn : 100 ≤ n) (h : V miX12_touches (d + 1) 101 [(0, .ref 53), (1, I_ x1), (2, I_ x2), (3, I_ x3), (4, I_ x4)] [I_ 0] n (W0 dy) g 0 0 P) : V miX12_touches (d + 1) 100 [(0, .ref 53), (1, I_ x1), (2, I_ x2), (3, I_ x3), (4, I_ x4)] [] n (W0 dy) g 0 0 P := by
  refine v_iconst 56 rfl ?_
  exact h
set_option maxHeartbeats 8000000 in
set_option maxRecDepth 4000 in
theorem bX12_touches_101 {d n : Nat} {dy : Nat → Shp} {g : Hp} {P : Pst} {x1 : Int} {x2 : Int} {x3 : Int} {x4 : Int} {xs0 : Int} (hn : 100 ≤ n) (h : (xs0 = 0 ∨ xs0 = 1) ∧ P (some (I_ xs0)) n (W0 dy) g) : V miX12_touches (d + 1) 101 [(0, .ref 53), (1, I_ x1), (2, I_ x2), (3, I_ x3), (4, I_ x4)] [I_ xs0] n (W0 dy) g 0 0 P := by
  have c1 := h.1
  have h := h.2
  exact v_ret (v := some (I_ xs0)) 57 rfl (Nat.zero_le _) (Nat.zero_le _) (rokZ c1) rfl h
theorem lv12_207_isRing_11 : LkV miX12_isRing miX12_touches 207 4 11 := ⟨⟨⟨tbG_in (List.mem_append_right _ (List.mem_of_getElem? (i := 1388) (by decide +kernel))) rfl, tbG_in (List.mem_append_right _ (List.mem_of_getElem? (i := 9) (by decide +kernel))) rfl, tbG_in (List.mem_append_right _ (List.mem_of_getElem? (i := 1385) (by decide +kernel))) rfl⟩, ⟨by decide +kernel, by decide +kernel, by decide +kernel⟩, by decide⟩, tbG_in (List.mem_append_right _ (List.mem_of_getElem? (i := 1387) (by decide +kernel))) rfl, RX12, TX12, 58, rfl, tbG_in (List.mem_append_left _ (List.mem_of_getElem? (i := 55) (by decide +kernel))) rfl⟩
theorem lv12_200_isRing_11 : LkV miX12_isRing miX12_isOn 200 3 11 := ⟨⟨⟨tbG_in (List.mem_append_right _ (List.mem_of_getElem? (i := 1378) (by decide +kernel))) rfl, tbG_in (List.mem_append_right _ (List.mem_of_getElem? (i := 9) (by decide +kernel))) rfl, tbG_in (List.mem_append_right _ (List.mem_of_getElem? (i := 1375) (by decide +kernel))) rfl⟩, ⟨by decide +kernel, by decide +kernel, by decide +kernel⟩, by decide⟩, tbG_in (List.mem_append_right _ (List.mem_of_getElem? (i := 1377) (by decide +kernel))) rfl, RX12, TX12, 58, rfl, tbG_in (List.mem_append_left _ (List.mem_of_getElem? (i := 53) (by decide +kernel))) rfl⟩
set_option maxHeartbeats 8000000 in
set_option maxRecDepth 4000 in
theorem bX12_isRing_0 {d n : Nat} {dy : Nat → Shp} {g : Hp} {P : Pst} {x1 : Int} (hn : 100 ≤ n) (h : V miX12_isRing (d + 1) 2 [(0, .ref 53), (1, I_ x1), (2, I_ 0)] [] n (W0 dy) g 0 0 P) : V miX12_isRing (d + 1) 0 [(0, .ref 53), (1, I_ x1)] [] n (W0 dy) g 0 0 P := by
  refine v_iconst 0 rfl ?_
  refine v_istore_n 1 [1, 2, 0] rfl rfl (by decide) rfl ?_
  exact h
set_option maxHeartbeats 8000000 in
set_option maxRecDepth 4000 in
theorem bX12_isRing_2 {d n : Nat} {dy : Nat → Shp} {g : Hp} {P : Pst} {x1 : Int} {x2 : Int} (hn : 100 ≤ n) (h : (i3 x2) ∧ (i3 x1) ∧ ((x1 ≤ x2) → P (some (I_ 1)) n (W0 dy) g) ∧ ((x2 < x1) → V miX12_isRing (d + 1) 11 [(0, .ref 53), (1, I_ x1), (2, I_ x2), (3, I_ (x2 + 1))] [] n (W0 dy) g 0 0 P)) : V miX12_isRing (d + 1) 2 [(0, .ref 53), (1, I_ x1), (2, I_ x2)] [] n (W0 dy) g 0 0 P := by
  refine v_iload_n 2 2 rfl rfl rfl ?_
  refine v_iload_n 3 1 rfl rfl rfl ?_
  have c1 := h.1
  have h := h.2
  have c2 := h.1
  have h := h.2
  refine v_icmp_ge 4 rfl (tgt := 139) rfl c1 c2 (fun q3 => ?_) (fun q3 => ?_)
  · have h := h.1 q3
    refine v_iconst 79 rfl ?_
    exact v_ret (v := some (I_ 1)) 80 rfl (Nat.zero_le _) (Nat.zero_le _) (Or.inr rfl) rfl h
  · have h := h.2 q3
    refine v_iload_n 5 2 rfl rfl rfl ?_
    refine v_iconst 6 rfl ?_
    refine v_iadd 7 rfl ?_
    refine v_istore_n 8 [1, 2, 3, 0] rfl rfl (by decide) rfl ?_
    exact h
set_option maxHeartbeats 8000000 in
set_option maxRecDepth 4000 in
theorem bX12_isRing_11 {d n : Nat} {dy : Nat → Shp} {g : Hp} {P : Pst} {x1 : Int} {x2 : Int} {x3 : Int} (hn : 100 ≤ n) (h : (i3 x3) ∧ (i3 x1) ∧ ((x1 ≤ x3) → V miX12_isRing (d + 1) 2 [(0, .ref 53), (1, I_ x1), (2, I_ (x2 + 1))] [] n (W0 dy) g 0 0 P) ∧ ((x3 < x1) → (i3 (x2 + 1)) ∧ (x1 ≠ 0) ∧ (i3 (x3 + 1)) ∧ (x1 ≠ 0) ∧ (i3 ((x2 + 1).tmod x1)) ∧ ((((x2 + 1).tmod x1) ≠ x3) → (i3 ((x3 + 1).tmod x1)) ∧ (i3 x2) ∧ ((((x3 + 1).tmod x1) ≠ x2) → Runs miX12_touches d [.ref 53, I_ x2, I_ ((x2 + 1).tmod x1), I_ x3, I_ ((x3 + 1).tmod x1)] n (W0 dy) g (fun v n' S' g' => V miX12_isRing (d + 1) 118 [(0, .ref 53), (1, I_ x1), (2, I_ x2), (3, I_ x3), (4, I_ ((x2 + 1).tmod x1)), (5, I_ ((x3 + 1).tmod x1))] (v.toList ++ []) n' S' g' 0 0 P)) ∧ ((((x3 + 1).tmod x1) = x2) → Runs miX12_isOn d [.ref 53, I_ x3, I_ ((x3 + 1).tmod x1), I_ ((x2 + 1).tmod x1)] n (W0 dy) g (fun v n' S' g' => V miX12_isRing (d + 1) 84 [(0, .ref 53), (1, I_ x1), (2, I_ x2), (3, I_ x3), (4, I_ ((x2 + 1).tmod x1)), (5, I_ ((x3 + 1).tmod x1))] (v.toList ++ []) n' S' g' 0 0 P))) ∧ ((((x2 + 1).tmod x1) = x3) → Runs miX12_isOn d [.ref 53, I_ x2, I_ ((x2 + 1).tmod x1), I_ ((x3 + 1).tmod x1)] n (W0 dy) g (fun v n' S' g' => V miX12_isRing (d + 1) 45 [(0, .ref 53), (1, I_ x1), (2, I_ x2), (3, I_ x3), (4, I_ ((x2 + 1).tmod x1)), (5, I_ ((x3 + 1).tmod x1))] (v.toList ++ []) n' S' g' 0 0 P)))) : V miX12_isRing (d + 1) 11 [(0, .ref 53), (1, I_ x1), (2, I_ x2), (3, I_ x3)] [] n (W0 dy) g 0 0 P := by
  refine v_iload_n 9 3 rfl rfl rfl ?_
  refine v_iload_n 10 1 rfl rfl rfl ?_
  have c1 := h.1
  have h := h.2
  have c2 := h.1
  have h := h.2
  refine v_icmp_ge 11 rfl (tgt := 133) rfl c1 c2 (fun q12 => ?_) (fun q12 => ?_)
  · have h := h.1 q12
    refine v_iinc 77 2 [1, 2, 0, 3] rfl rfl (by decide) rfl ?_
    refine v_goto 78 rfl (tgt := 2) rfl ?_
    refine v_loc [0, 1, 2] rfl ?_
    exact h
  · have h := h.2 q12
    refine v_iload_n 12 2 rfl rfl rfl ?_
    refine v_iconst 13 rfl ?_
    refine v_iadd 14 rfl ?_
    refine v_iload_n 15 1 rfl rfl rfl ?_
    have c3 := h.1
    have h := h.2
    have c4 := h.1
    have h := h.2
    refine v_irem 16 rfl c3 c2 c4 ?_
    refine v_istore 17 [1, 2, 3, 4, 0] rfl (by decide) rfl ?_
    refine v_iload_n 18 3 rfl rfl rfl ?_
    refine v_iconst 19 rfl ?_
    refine v_iadd 20 rfl ?_
    refine v_iload_n 21 1 rfl rfl rfl ?_
    have c5 := h.1
    have h := h.2
    have c6 := h.1
    have h := h.2
    refine v_irem 22 rfl c5 c2 c6 ?_
    refine v_istore 23 [1, 2, 3, 4, 5, 0] rfl (by decide) rfl ?_
    refine v_iload 24 4 rfl rfl ?_
    refine v_iload_n 25 3 rfl rfl rfl ?_
    have c7 := h.1
    have h := h.2
    refine v_icmp_ne 26 rfl (tgt := 69) rfl c7 c1 (fun q11 => ?_) (fun q11 => ?_)
    · have h := h.1 q11
      refine v_iload 44 5 rfl rfl ?_
      refine v_iload_n 45 2 rfl rfl rfl ?_
      have c8 := h.1
      have h := h.2
      have c9 := h.1
      have h := h.2
      refine v_icmp_ne 46 rfl (tgt := 108) rfl c8 c9 (fun q10 => ?_) (fun q10 => ?_)
      · have h := h.1 q10
        refine v_aload_n 64 0 rfl rfl rfl ?_
        refine v_iload_n 65 2 rfl rfl rfl ?_
        refine v_iload 66 4 rfl rfl ?_
        refine v_iload_n 67 3 rfl rfl rfl ?_
        refine v_iload 68 5 rfl rfl ?_
        refine v_callV (st := []) [I_ x2, I_ ((x2 + 1).tmod x1), I_ x3, I_ ((x3 + 1).tmod x1)] 69 rfl lv12_207_isRing_11 (al 53 rfl hn) (wk53 dy) (by decide) rfl (Nat.le_refl _) (Nat.le_refl _) ?_
        exact h
      · have h := h.2 q10
        refine v_aload_n 47 0 rfl rfl rfl ?_
        refine v_iload_n 48 3 rfl rfl rfl ?_
        refine v_iload 49 5 rfl rfl ?_
        refine v_iload 50 4 rfl rfl ?_
        refine v_callV (st := []) [I_ x3, I_ ((x3 + 1).tmod x1), I_ ((x2 + 1).tmod x1)] 51 rfl lv12_200_isRing_11 (al 53 rfl hn) (wk53 dy) (by decide) rfl (Nat.le_refl _) (Nat.le_refl _) ?_
        exact h
    · have h := h.2 q11
      refine v_aload_n 27 0 rfl rfl rfl ?_
      refine v_iload_n 28 2 rfl rfl rfl ?_
      refine v_iload 29 4 rfl rfl ?_
      refine v_iload 30 5 rfl rfl ?_
      refine v_callV (st := []) [I_ x2, I_ ((x2 + 1).tmod x1), I_ ((x3 + 1).tmod x1)] 31 rfl lv12_200_isRing_11 (al 53 rfl hn) (wk53 dy) (by decide) rfl (Nat.le_refl _) (Nat.le_refl _) ?_
      exact h
set_option maxHeartbeats 8000000 in
set_option maxRecDepth 4000 in
theorem bX12_isRing_45 {d n : Nat} {dy : Nat → Shp} {g : Hp} {P : Pst} {x1 : Int} {x2 : Int} {x3 : Int} {x4 : Int} {x5 : Int} {xs0 : Int} (hn : 100 ≤ n) (h : (i3 xs0) ∧ ((xs0 ≠ 0) → V miX12_isRing (d + 1) 59 [(0, .ref 53), (1, I_ x1), (2, I_ x2), (3, I_ x3), (4, I_ x4), (5, I_ x5)] [] n (W0 dy) g 0 0 P) ∧ ((xs0 = 0) → Runs miX12_isOn d [.ref 53, I_ x3, I_ x5, I_ x2] n (W0 dy) g (fun v n' S' g' => V miX12_isRing (d + 1) 56 [(0, .ref 53), (1, I_ x1), (2, I_ x2), (3, I_ x3), (4, I_ x4), (5, I_ x5)] (v.toList ++ []) n' S' g' 0 0 P))) : V miX12_isRing (d + 1) 45 [(0, .ref 53), (1, I_ x1), (2, I_ x2), (3, I_ x3), (4, I_ x4), (5, I_ x5)] [I_ xs0] n (W0 dy) g 0 0 P := by
  have c1 := h.1
  have h := h.2
  refine v_if_ne 32 rfl (tgt := 59) rfl c1 (fun q2 => ?_) (fun q2 => ?_)
  · have h := h.1 q2
    exact h
  · have h := h.2 q2
    refine v_aload_n 33 0 rfl rfl rfl ?_
    refine v_iload_n 34 3 rfl rfl rfl ?_
    refine v_iload 35 5 rfl rfl ?_
    refine v_iload_n 36 2 rfl rfl rfl ?_
    refine v_callV (st := []) [I_ x3, I_ x5, I_ x2] 37 rfl lv12_200_isRing_11 (al 53 rfl hn) (wk53 dy) (by decide) rfl (Nat.le_refl _) (Nat.le_refl _) ?_
    exact h
set_option maxHeartbeats 8000000 in
set_option maxRecDepth 4000 in
theorem bX12_isRing_56 {d n : Nat} {dy : Nat → Shp} {g : Hp} {P : Pst} {x1 : Int} {x2 : Int} {x3 : Int} {x4 : Int} {x5 : Int} {xs0 : Int} (hn : 100 ≤ n) (h : (i3 xs0) ∧ ((xs0 = 0) → V miX12_isRing (d + 1) 64 [(0, .ref 53), (1, I_ x1), (2, I_ x2), (3, I_ x3), (4, I_ x4), (5, I_ x5)] [I_ 0] n (W0 dy) g 0 0 P) ∧ ((xs0 ≠ 0) → V miX12_isRing (d + 1) 59 [(0, .ref 53), (1, I_ x1), (2, I_ x2), (3, I_ x3), (4, I_ x4), (5, I_ x5)] [] n (W0 dy) g 0 0 P)) : V miX12_isRing (d + 1) 56 [(0, .ref 53), (1, I_ x1), (2, I_ x2), (3, I_ x3), (4, I_ x4), (5, I_ x5)] [I_ xs0] n (W0 dy) g 0 0 P := by
  have c1 := h.1
  have h := h.2
  refine v_if_eq 38 rfl (tgt := 63) rfl c1 (fun q2 => ?_) (fun q2 => ?_)
  · have h := h.1 q2
    refine v_iconst 41 rfl ?_
    exact h
  · have h := h.2 q2
    exact h
set_option maxHeartbeats 8000000 in
set_option maxRecDepth 4000 in
theorem bX12_isRing_59 {d n : Nat} {dy : Nat → Shp} {g : Hp} {P : Pst} {x1 : Int} {x2 : Int} {x3 : Int} {x4 : Int} {x5 : Int} (hn : 100 ≤ n) (h : V miX12_isRing (d + 1) 64 [(0, .ref 53), (1, I_ x1), (2, I_ x2), (3, I_ x3), (4, I_ x4), (5, I_ x5)] [I_ 1] n (W0 dy) g 0 0 P) : V miX12_isRing (d + 1) 59 [(0, .ref 53), (1, I_ x1), (2, I_ x2), (3, I_ x3), (4, I_ x4), (5, I_ x5)] [] n (W0 dy) g 0 0 P := by
  refine v_iconst 39 rfl ?_
  refine v_goto 40 rfl (tgt := 64) rfl ?_
  exact h
set_option maxHeartbeats 8000000 in
set_option maxRecDepth 4000 in
theorem bX12_isRing_64 {d n : Nat} {dy : Nat → Shp} {g : Hp} {P : Pst} {x1 : Int} {x2 : Int} {x3 : Int} {x4 : Int} {x5 : Int} {xs0 : Int} (hn : 100 ≤ n) (h : V miX12_isRing (d + 1) 120 [(0, .ref 53), (1, I_ x1), (2, I_ x2), (3, I_ x3), (4, I_ x4), (5, I_ x5), (6, I_ xs0)] [] n (W0 dy) g 0 0 P) : V miX12_isRing (d + 1) 64 [(0, .ref 53), (1, I_ x1), (2, I_ x2), (3, I_ x3), (4, I_ x4), (5, I_ x5)] [I_ xs0] n (W0 dy) g 0 0 P := by
  refine v_istore 42 [1, 2, 3, 4, 5, 6, 0] rfl (by decide) rfl ?_
  refine v_goto 43 rfl (tgt := 120) rfl ?_
  exact h
set_option maxHeartbeats 8000000 in
set_option maxRecDepth 4000 in
theorem bX12_isRing_84 {d n : Nat} {dy : Nat → Shp} {g : Hp} {P : Pst} {x1 : Int} {x2 : Int} {x3 : Int} {x4 : Int} {x5 : Int} {xs0 : Int} (hn : 100 ≤ n) (h : (i3 xs0) ∧ ((xs0 ≠ 0) → V miX12_isRing (d + 1) 98 [(0, .ref 53), (1, I_ x1), (2, I_ x2), (3, I_ x3), (4, I_ x4), (5, I_ x5)] [] n (W0 dy) g 0 0 P) ∧ ((xs0 = 0) → Runs miX12_isOn d [.ref 53, I_ x2, I_ x4, I_ x3] n (W0 dy) g (fun v n' S' g' => V miX12_isRing (d + 1) 95 [(0, .ref 53), (1, I_ x1), (2, I_ x2), (3, I_ x3), (4, I_ x4), (5, I_ x5)] (v.toList ++ []) n' S' g' 0 0 P))) : V miX12_isRing (d + 1) 84 [(0, .ref 53), (1, I_ x1), (2, I_ x2), (3, I_ x3), (4, I_ x4), (5, I_ x5)] [I_ xs0] n (W0 dy) g 0 0 P := by
  have c1 := h.1
  have h := h.2
  refine v_if_ne 52 rfl (tgt := 98) rfl c1 (fun q2 => ?_) (fun q2 => ?_)
  · have h := h.1 q2
    exact h
  · have h := h.2 q2
    refine v_aload_n 53 0 rfl rfl rfl ?_
    refine v_iload_n 54 2 rfl rfl rfl ?_
    refine v_iload 55 4 rfl rfl ?_
    refine v_iload_n 56 3 rfl rfl rfl ?_
    refine v_callV (st := []) [I_ x2, I_ x4, I_ x3] 57 rfl lv12_200_isRing_11 (al 53 rfl hn) (wk53 dy) (by decide) rfl (Nat.le_refl _) (Nat.le_refl _) ?_
    exact h
set_option maxHeartbeats 8000000 in
set_option maxRecDepth 4000 in
theorem bX12_isRing_95 {d n : Nat} {dy : Nat → Shp} {g : Hp} {P : Pst} {x1 : Int} {x2 : Int} {x3 : Int} {x4 : Int} {x5 : Int} {xs0 : Int} (hn : 100 ≤ n) (h : (i3 xs0) ∧ ((xs0 = 0) → V miX12_isRing (d + 1) 103 [(0, .ref 53), (1, I_ x1), (2, I_ x2), (3, I_ x3), (4, I_ x4), (5, I_ x5)] [I_ 0] n (W0 dy) g 0 0 P) ∧ ((xs0 ≠ 0) → V miX12_isRing (d + 1) 98 [(0, .ref 53), (1, I_ x1), (2, I_ x2), (3, I_ x3), (4, I_ x4), (5, I_ x5)] [] n (W0 dy) g 0 0 P)) : V miX12_isRing (d + 1) 95 [(0, .ref 53), (1, I_ x1), (2, I_ x2), (3, I_ x3), (4, I_ x4), (5, I_ x5)] [I_ xs0] n (W0 dy) g 0 0 P := by
  have c1 := h.1
  have h := h.2
  refine v_if_eq 58 rfl (tgt := 102) rfl c1 (fun q2 => ?_) (fun q2 => ?_)
  · have h := h.1 q2
    refine v_iconst 61 rfl ?_
    exact h
  · have h := h.2 q2
    exact h
set_option maxHeartbeats 8000000 in
set_option maxRecDepth 4000 in
theorem bX12_isRing_98 {d n : Nat} {dy : Nat → Shp} {g : Hp} {P : Pst} {x1 : Int} {x2 : Int} {x3 : Int} {x4 : Int} {x5 : Int} (hn : 100 ≤ n) (h : V miX12_isRing (d + 1) 103 [(0, .ref 53), (1, I_ x1), (2, I_ x2), (3, I_ x3), (4, I_ x4), (5, I_ x5)] [I_ 1] n (W0 dy) g 0 0 P) : V miX12_isRing (d + 1) 98 [(0, .ref 53), (1, I_ x1), (2, I_ x2), (3, I_ x3), (4, I_ x4), (5, I_ x5)] [] n (W0 dy) g 0 0 P := by
  refine v_iconst 59 rfl ?_
  refine v_goto 60 rfl (tgt := 103) rfl ?_
  exact h
set_option maxHeartbeats 8000000 in
set_option maxRecDepth 4000 in
theorem bX12_isRing_103 {d n : Nat} {dy : Nat → Shp} {g : Hp} {P : Pst} {x1 : Int} {x2 : Int} {x3 : Int} {x4 : Int} {x5 : Int} {xs0 : Int} (hn : 100 ≤ n) (h : V miX12_isRing (d + 1) 120 [(0, .ref 53), (1, I_ x1), (2, I_ x2), (3, I_ x3), (4, I_ x4), (5, I_ x5), (6, I_ xs0)] [] n (W0 dy) g 0 0 P) : V miX12_isRing (d + 1) 103 [(0, .ref 53), (1, I_ x1), (2, I_ x2), (3, I_ x3), (4, I_ x4), (5, I_ x5)] [I_ xs0] n (W0 dy) g 0 0 P := by
  refine v_istore 62 [1, 2, 3, 4, 5, 6, 0] rfl (by decide) rfl ?_
  refine v_goto 63 rfl (tgt := 120) rfl ?_
  exact h
set_option maxHeartbeats 8000000 in
set_option maxRecDepth 4000 in
theorem bX12_isRing_118 {d n : Nat} {dy : Nat → Shp} {g : Hp} {P : Pst} {x1 : Int} {x2 : Int} {x3 : Int} {x4 : Int} {x5 : Int} {xs0 : Int} (hn : 100 ≤ n) (h : V miX12_isRing (d + 1) 120 [(0, .ref 53), (1, I_ x1), (2, I_ x2), (3, I_ x3), (4, I_ x4), (5, I_ x5), (6, I_ xs0)] [] n (W0 dy) g 0 0 P) : V miX12_isRing (d + 1) 118 [(0, .ref 53), (1, I_ x1), (2, I_ x2), (3, I_ x3), (4, I_ x4), (5, I_ x5)] [I_ xs0] n (W0 dy) g 0 0 P := by
  refine v_istore 70 [1, 2, 3, 4, 5, 6, 0] rfl (by decide) rfl ?_
  exact h
set_option maxHeartbeats 8000000 in
set_option maxRecDepth 4000 in
theorem bX12_isRing_120 {d n : Nat} {dy : Nat → Shp} {g : Hp} {P : Pst} {x1 : Int} {x2 : Int} {x3 : Int} {x4 : Int} {x5 : Int} {x6 : Int} (hn : 100 ≤ n) (h : (i3 x6) ∧ ((x6 = 0) → V miX12_isRing (d + 1) 11 [(0, .ref 53), (1, I_ x1), (2, I_ x2), (3, I_ (x3 + 1))] [] n (W0 dy) g 0 0 P) ∧ ((x6 ≠ 0) → P (some (I_ 0)) n (W0 dy) g)) : V miX12_isRing (d + 1) 120 [(0, .ref 53), (1, I_ x1), (2, I_ x2), (3, I_ x3), (4, I_ x4), (5, I_ x5), (6, I_ x6)] [] n (W0 dy) g 0 0 P := by
  refine v_iload 71 6 rfl rfl ?_
  have c1 := h.1
  have h := h.2
  refine v_if_eq 72 rfl (tgt := 127) rfl c1 (fun q2 => ?_) (fun q2 => ?_)
  · have h := h.1 q2
    refine v_iinc 75 3 [1, 2, 3, 0, 4, 5, 6] rfl rfl (by decide) rfl ?_
    refine v_goto 76 rfl (tgt := 11) rfl ?_
    refine v_loc [0, 1, 2, 3] rfl ?_
    exact h
  · have h := h.2 q2
    refine v_iconst 73 rfl ?_
    exact v_ret (v := some (I_ 0)) 74 rfl (Nat.zero_le _) (Nat.zero_le _) (Or.inl rfl) rfl h
theorem fl12_53_11 : FL RX12 53 11 17 true (.array .int) := ⟨RX12, TX12, 58, "MobileMakerModel", rfl, rfl, by decide, kf11, tbG_in (List.mem_append_right _ (List.mem_of_getElem? (i := 1144) (by decide +kernel))) rfl, Or.inl rfl, rfl, by decide +kernel, ⟨tyX12, tyX12_ok⟩, nmX12, fun _ => rfl⟩
theorem fl12_56_11 : FL RX12 56 11 18 true (.array .int) := ⟨RX12, TX12, 58, "MobileMakerModel", rfl, rfl, by decide, kf11, tbG_in (List.mem_append_right _ (List.mem_of_getElem? (i := 1145) (by decide +kernel))) rfl, Or.inl rfl, rfl, by decide +kernel, ⟨tyX12, tyX12_ok⟩, nmX12, fun _ => rfl⟩
theorem fl12_59_11 : FL RX12 59 11 19 true (.array .int) := ⟨RX12, TX12, 58, "MobileMakerModel", rfl, rfl, by decide, kf11, tbG_in (List.mem_append_right _ (List.mem_of_getElem? (i := 1146) (by decide +kernel))) rfl, Or.inl rfl, rfl, by decide +kernel, ⟨tyX12, tyX12_ok⟩, nmX12, fun _ => rfl⟩
theorem lv12_174_plate_11 : LkV miX12_plate miX12_refuse 174 1 11 := ⟨⟨⟨tbG_in (List.mem_append_right _ (List.mem_of_getElem? (i := 1351) (by decide +kernel))) rfl, tbG_in (List.mem_append_right _ (List.mem_of_getElem? (i := 9) (by decide +kernel))) rfl, tbG_in (List.mem_append_right _ (List.mem_of_getElem? (i := 1348) (by decide +kernel))) rfl⟩, ⟨by decide +kernel, by decide +kernel, by decide +kernel⟩, by decide⟩, tbG_in (List.mem_append_right _ (List.mem_of_getElem? (i := 1350) (by decide +kernel))) rfl, RX12, TX12, 58, rfl, tbG_in (List.mem_append_left _ (List.mem_of_getElem? (i := 50) (by decide +kernel))) rfl⟩
theorem lv12_215_plate_11 : LkV miX12_plate miX12_isRing 215 1 11 := ⟨⟨⟨tbG_in (List.mem_append_right _ (List.mem_of_getElem? (i := 1374) (by decide +kernel))) rfl, tbG_in (List.mem_append_right _ (List.mem_of_getElem? (i := 9) (by decide +kernel))) rfl, tbG_in (List.mem_append_right _ (List.mem_of_getElem? (i := 1371) (by decide +kernel))) rfl⟩, ⟨by decide +kernel, by decide +kernel, by decide +kernel⟩, by decide⟩, tbG_in (List.mem_append_right _ (List.mem_of_getElem? (i := 1373) (by decide +kernel))) rfl, RX12, TX12, 58, rfl, tbG_in (List.mem_append_left _ (List.mem_of_getElem? (i := 52) (by decide +kernel))) rfl⟩
theorem ls12_218_plate : LkS miX12_plate miJ9_abs_067f4 218 1 := ⟨⟨⟨tbG_in (List.mem_append_right _ (List.mem_of_getElem? (i := 569) (by decide +kernel))) rfl, tbG_in (List.mem_append_right _ (List.mem_of_getElem? (i := 15) (by decide +kernel))) rfl, tbG_in (List.mem_append_right _ (List.mem_of_getElem? (i := 1392) (by decide +kernel))) rfl⟩, ⟨by decide +kernel, by decide +kernel, by decide +kernel⟩, by decide⟩, tbG_in (List.mem_append_right _ (List.mem_of_getElem? (i := 568) (by decide +kernel))) rfl⟩
theorem lv12_178_plate_11 : LkV miX12_plate miX12_newPart 178 2 11 := ⟨⟨⟨tbG_in (List.mem_append_right _ (List.mem_of_getElem? (i := 1355) (by decide +kernel))) rfl, tbG_in (List.mem_append_right _ (List.mem_of_getElem? (i := 9) (by decide +kernel))) rfl, tbG_in (List.mem_append_right _ (List.mem_of_getElem? (i := 1352) (by decide +kernel))) rfl⟩, ⟨by decide +kernel, by decide +kernel, by decide +kernel⟩, by decide⟩, tbG_in (List.mem_append_right _ (List.mem_of_getElem? (i := 1354) (by decide +kernel))) rfl, RX12, TX12, 58, rfl, tbG_in (List.mem_append_left _ (List.mem_of_getElem? (i := 51) (by decide +kernel))) rfl⟩
set_option maxHeartbeats 8000000 in
set_option maxRecDepth 4000 in
theorem bX12_plate_0 {d n : Nat} {dy : Nat → Shp} {g : Hp} {P : Pst} {x1 : Int} {x2 : Int} (hn : 100 ≤ n) (h : (i3 x1) ∧ ((x1 < 0) → V miX12_plate (d + 1) 20 [(0, .ref 53), (1, I_ x1), (2, I_ x2)] [] n (W0 dy) (up2 (up2 g 53 1 0) 53 0 0) 0 0 P) ∧ ((0 ≤ x1) → ((x1 < 6) → (0 ≤ x1 ∧ x1 < 6) ∧ ((0 ≤ (g 55 x1.toNat)) → (i3 x2) ∧ ((x2 < 3) → V miX12_plate (d + 1) 52 [(0, .ref 53), (1, I_ x1), (2, I_ x2)] [] n (W0 dy) (up2 (up2 g 53 1 0) 53 0 0) 0 0 P) ∧ ((3 ≤ x2) → ((x2 ≤ 8) → (i3 (2 * x2)) ∧ (((2 * x2) ≤ (g 55 x1.toNat)) → V miX12_plate (d + 1) 79 [(0, .ref 53), (1, I_ x1), (2, I_ x2), (3, I_ 0)] [] n (W0 dy) (up2 (up2 g 53 1 0) 53 0 0) 0 0 P) ∧ (((g 55 x1.toNat) < (2 * x2)) → Runs miX12_refuse d [.ref 53, I_ 4] n (W0 dy) (up2 (up2 g 53 1 0) 53 0 0) (fun v n' S' g' => V miX12_plate (d + 1) 76 [(0, .ref 53), (1, I_ x1), (2, I_ x2)] (v.toList ++ []) n' S' g' 0 0 P))) ∧ ((8 < x2) → V miX12_plate (d + 1) 52 [(0, .ref 53), (1, I_ x1), (2, I_ x2)] [] n (W0 dy) (up2 (up2 g 53 1 0) 53 0 0) 0 0 P))) ∧ (((g 55 x1.toNat) < 0) → Runs miX12_refuse d [.ref 53, I_ 3] n (W0 dy) (up2 (up2 g 53 1 0) 53 0 0) (fun v n' S' g' => V miX12_plate (d + 1) 40 [(0, .ref 53), (1, I_ x1), (2, I_ x2)] (v.toList ++ []) n' S' g' 0 0 P))) ∧ ((6 ≤ x1) → V miX12_plate (d + 1) 20 [(0, .ref 53), (1, I_ x1), (2, I_ x2)] [] n (W0 dy) (up2 (up2 g 53 1 0) 53 0 0) 0 0 P))) : V miX12_plate (d + 1) 0 [(0, .ref 53), (1, I_ x1), (2, I_ x2)] [] n (W0 dy) g 0 0 P := by
  refine v_aload_n 0 0 rfl rfl rfl ?_
  refine v_iconst 1 rfl ?_
  refine v_putI 2 rfl fl12_148_11 (al 53 rfl hn) (wk53 dy) (by decide) rfl (wc53_1 dy) (by decide) ?_
  refine v_aload_n 3 0 rfl rfl rfl ?_
  refine v_iconst 4 rfl ?_
  refine v_putI 5 rfl fl12_152_11 (al 53 rfl hn) (wk53 dy) (by decide) rfl (wc53_0 dy) (by decide) ?_
  refine v_iload_n 6 1 rfl rfl rfl ?_
  have c1 := h.1
  have h := h.2
  refine v_if_lt 7 rfl (tgt := 20) rfl c1 (fun q14 => ?_) (fun q14 => ?_)
  · have h := h.1 q14
    exact h
  · have h := h.2 q14
    refine v_iload_n 8 1 rfl rfl rfl ?_
    refine v_bipush 9 rfl (by decide) ?_
    refine v_icmp_lt 10 rfl (tgt := 26) rfl c1 (by decide) (fun q13 => ?_) (fun q13 => ?_)
    · have h := h.1 q13
      refine v_aload_n 15 0 rfl rfl rfl ?_
      refine v_gK 16 rfl fl12_13_11.r (al 53 rfl hn) (wk53 dy) (by decide) rfl (r := 55) (wc53_3 dy) ?_
      refine v_iload_n 17 1 rfl rfl rfl ?_
      have c2 := h.1
      have h := h.2
      refine v_ia (N := 6) 18 rfl (al 55 rfl hn) (wk55 dy) (wn55 dy) (by decide) c2 (y := g 55 x1.toNat) rfl ?_
      refine v_rng fun w3 => ?_
      have r4 : i3 (g 55 x1.toNat) := rI w3 (q := x1.toNat) (al 55 rfl hn) (wk55 dy) rfl rfl
      refine v_if_ge 19 rfl (tgt := 41) rfl r4 (fun q12 => ?_) (fun q12 => ?_)
      · have h := h.1 q12
        refine v_iload_n 24 2 rfl rfl rfl ?_
        refine v_iconst 25 rfl ?_
        have c5 := h.1
        have h := h.2
        refine v_icmp_lt 26 rfl (tgt := 52) rfl c5 (by decide) (fun q11 => ?_) (fun q11 => ?_)
        · have h := h.1 q11
          exact h
        · have h := h.2 q11
          refine v_iload_n 27 2 rfl rfl rfl ?_
          refine v_bipush 28 rfl (by decide) ?_
          refine v_icmp_le 29 rfl (tgt := 59) rfl c5 (by decide) (fun q10 => ?_) (fun q10 => ?_)
          · have h := h.1 q10
            refine v_iconst 34 rfl ?_
            refine v_iload_n 35 2 rfl rfl rfl ?_
            refine v_imul 36 rfl ?_
            refine v_aload_n 37 0 rfl rfl rfl ?_
            refine v_gK 38 rfl fl12_13_11.r (al 53 rfl hn) (wk53 dy) (by decide) rfl (r := 55) (wc53_3 dy) ?_
            refine v_iload_n 39 1 rfl rfl rfl ?_
            refine v_ia (N := 6) 40 rfl (al 55 rfl hn) (wk55 dy) (wn55 dy) (by decide) c2 (y := g 55 x1.toNat) rfl ?_
            refine v_rng fun w6 => ?_
            have r7 : i3 (g 55 x1.toNat) := rI w6 (q := x1.toNat) (al 55 rfl hn) (wk55 dy) rfl rfl
            have c8 := h.1
            have h := h.2
            refine v_icmp_le 41 rfl (tgt := 77) rfl c8 r7 (fun q9 => ?_) (fun q9 => ?_)
            · have h := h.1 q9
              refine v_iconst 46 rfl ?_
              refine v_istore_n 47 [1, 2, 3, 0] rfl rfl (by decide) rfl ?_
              exact h
            · have h := h.2 q9
              refine v_aload_n 42 0 rfl rfl rfl ?_
              refine v_iconst 43 rfl ?_
              refine v_callV (st := []) [I_ 4] 44 rfl lv12_174_plate_11 (al 53 rfl hn) (wk53 dy) (by decide) rfl (Nat.le_refl _) (Nat.le_refl _) ?_
              exact h
          · have h := h.2 q10
            exact h
      · have h := h.2 q12
        refine v_aload_n 20 0 rfl rfl rfl ?_
        refine v_iconst 21 rfl ?_
        refine v_callV (st := []) [I_ 3] 22 rfl lv12_174_plate_11 (al 53 rfl hn) (wk53 dy) (by decide) rfl (Nat.le_refl _) (Nat.le_refl _) ?_
        exact h
    · have h := h.2 q13
      exact h
set_option maxHeartbeats 8000000 in
set_option maxRecDepth 4000 in
theorem bX12_plate_20 {d n : Nat} {dy : Nat → Shp} {g : Hp} {P : Pst} {x1 : Int} {x2 : Int} (hn : 100 ≤ n) (h : Runs miX12_refuse d [.ref 53, I_ 1] n (W0 dy) g (fun v n' S' g' => V miX12_plate (d + 1) 25 [(0, .ref 53), (1, I_ x1), (2, I_ x2)] (v.toList ++ []) n' S' g' 0 0 P)) : V miX12_plate (d + 1) 20 [(0, .ref 53), (1, I_ x1), (2, I_ x2)] [] n (W0 dy) g 0 0 P := by
  refine v_aload_n 11 0 rfl rfl rfl ?_
  refine v_iconst 12 rfl ?_
  refine v_callV (st := []) [I_ 1] 13 rfl lv12_174_plate_11 (al 53 rfl hn) (wk53 dy) (by decide) rfl (Nat.le_refl _) (Nat.le_refl _) ?_
  exact h
set_option maxHeartbeats 8000000 in
set_option maxRecDepth 4000 in
theorem bX12_plate_25 {d n : Nat} {dy : Nat → Shp} {g : Hp} {P : Pst} {x1 : Int} {x2 : Int} {xs0 : Int} (hn : 100 ≤ n) (h : P (some (I_ xs0)) n (W0 dy) g) : V miX12_plate (d + 1) 25 [(0, .ref 53), (1, I_ x1), (2, I_ x2)] [I_ xs0] n (W0 dy) g 0 0 P := by
  exact v_ret (v := some (I_ xs0)) 14 rfl (Nat.zero_le _) (Nat.zero_le _) trivial rfl h
set_option maxHeartbeats 8000000 in
set_option maxRecDepth 4000 in
theorem bX12_plate_40 {d n : Nat} {dy : Nat → Shp} {g : Hp} {P : Pst} {x1 : Int} {x2 : Int} {xs0 : Int} (hn : 100 ≤ n) (h : P (some (I_ xs0)) n (W0 dy) g) : V miX12_plate (d + 1) 40 [(0, .ref 53), (1, I_ x1), (2, I_ x2)] [I_ xs0] n (W0 dy) g 0 0 P := by
  exact v_ret (v := some (I_ xs0)) 23 rfl (Nat.zero_le _) (Nat.zero_le _) trivial rfl h
set_option maxHeartbeats 8000000 in
set_option maxRecDepth 4000 in
theorem bX12_plate_52 {d n : Nat} {dy : Nat → Shp} {g : Hp} {P : Pst} {x1 : Int} {x2 : Int} (hn : 100 ≤ n) (h : Runs miX12_refuse d [.ref 53, I_ 7] n (W0 dy) g (fun v n' S' g' => V miX12_plate (d + 1) 58 [(0, .ref 53), (1, I_ x1), (2, I_ x2)] (v.toList ++ []) n' S' g' 0 0 P)) : V miX12_plate (d + 1) 52 [(0, .ref 53), (1, I_ x1), (2, I_ x2)] [] n (W0 dy) g 0 0 P := by
  refine v_aload_n 30 0 rfl rfl rfl ?_
  refine v_bipush 31 rfl (by decide) ?_
  refine v_callV (st := []) [I_ 7] 32 rfl lv12_174_plate_11 (al 53 rfl hn) (wk53 dy) (by decide) rfl (Nat.le_refl _) (Nat.le_refl _) ?_
  exact h
set_option maxHeartbeats 8000000 in
set_option maxRecDepth 4000 in
theorem bX12_plate_58 {d n : Nat} {dy : Nat → Shp} {g : Hp} {P : Pst} {x1 : Int} {x2 : Int} {xs0 : Int} (hn : 100 ≤ n) (h : P (some (I_ xs0)) n (W0 dy) g) : V miX12_plate (d + 1) 58 [(0, .ref 53), (1, I_ x1), (2, I_ x2)] [I_ xs0] n (W0 dy) g 0 0 P := by
  exact v_ret (v := some (I_ xs0)) 33 rfl (Nat.zero_le _) (Nat.zero_le _) trivial rfl h
set_option maxHeartbeats 8000000 in
set_option maxRecDepth 4000 in
theorem bX12_plate_76 {d n : Nat} {dy : Nat → Shp} {g : Hp} {P : Pst} {x1 : Int} {x2 : Int} {xs0 : Int} (hn : 100 ≤ n) (h : P (some (I_ xs0)) n (W0 dy) g) : V miX12_plate (d + 1) 76 [(0, .ref 53), (1, I_ x1), (2, I_ x2)] [I_ xs0] n (W0 dy) g 0 0 P := by
  exact v_ret (v := some (I_ xs0)) 45 rfl (Nat.zero_le _) (Nat.zero_le _) trivial rfl h
set_option maxHeartbeats 8000000 in
set_option maxRecDepth 4000 in
theorem bX12_plate_79 {d n : Nat} {dy : Nat → Shp} {g : Hp} {P : Pst} {x1 : Int} {x2 : Int} {x3 : Int} (hn : 100 ≤ n) (h : (i3 x3) ∧ (i3 (2 * x2)) ∧ (((2 * x2) ≤ x3) → Runs miX12_isRing d [.ref 53, I_ x2] n (W0 dy) g (fun v n' S' g' => V miX12_plate (d + 1) 166 [(0, .ref 53), (1, I_ x1), (2, I_ x2), (3, I_ x3)] (v.toList ++ []) n' S' g' 0 0 P)) ∧ ((x3 < (2 * x2)) → (0 ≤ (16 * x1) + x3 ∧ (16 * x1) + x3 < 96) ∧ (((g 56 (((16 * x1) + x3).toNat)) < ((-1000))) → V miX12_plate (d + 1) 117 [(0, .ref 53), (1, I_ x1), (2, I_ x2), (3, I_ x3), (4, L_ (g 56 (((16 * x1) + x3).toNat)))] [] n (W0 dy) g 0 0 P) ∧ ((((-1000)) ≤ (g 56 (((16 * x1) + x3).toNat))) → (((g 56 (((16 * x1) + x3).toNat)) ≤ 1000) → (i3 (x3.tmod 2)) ∧ (((x3.tmod 2) ≠ 0) → (0 ≤ x3.tdiv 2 ∧ x3.tdiv 2 < 8) ∧ (i3 (g 56 (((16 * x1) + x3).toNat))) ∧ V miX12_plate (d + 1) 155 [(0, .ref 53), (1, I_ x1), (2, I_ x2), (3, I_ x3), (4, L_ (g 56 (((16 * x1) + x3).toNat)))] [] n (W0 dy) (up2 g 80 ((x3.tdiv 2).toNat) (g 56 (((16 * x1) + x3).toNat))) 0 0 P) ∧ (((x3.tmod 2) = 0) → (0 ≤ x3.tdiv 2 ∧ x3.tdiv 2 < 8) ∧ (i3 (g 56 (((16 * x1) + x3).toNat))) ∧ V miX12_plate (d + 1) 155 [(0, .ref 53), (1, I_ x1), (2, I_ x2), (3, I_ x3), (4, L_ (g 56 (((16 * x1) + x3).toNat)))] [] n (W0 dy) (up2 g 79 ((x3.tdiv 2).toNat) (g 56 (((16 * x1) + x3).toNat))) 0 0 P)) ∧ ((1000 < (g 56 (((16 * x1) + x3).toNat))) → V miX12_plate (d + 1) 117 [(0, .ref 53), (1, I_ x1), (2, I_ x2), (3, I_ x3), (4, L_ (g 56 (((16 * x1) + x3).toNat)))] [] n (W0 dy) g 0 0 P)))) : V miX12_plate (d + 1) 79 [(0, .ref 53), (1, I_ x1), (2, I_ x2), (3, I_ x3)] [] n (W0 dy) g 0 0 P := by
  refine v_iload_n 48 3 rfl rfl rfl ?_
  refine v_iconst 49 rfl ?_
  refine v_iload_n 50 2 rfl rfl rfl ?_
  refine v_imul 51 rfl ?_
  have c1 := h.1
  have h := h.2
  have c2 := h.1
  have h := h.2
  refine v_icmp_ge 52 rfl (tgt := 161) rfl c1 c2 (fun q14 => ?_) (fun q14 => ?_)
  · have h := h.1 q14
    refine v_aload_n 97 0 rfl rfl rfl ?_
    refine v_iload_n 98 2 rfl rfl rfl ?_
    refine v_callV (st := []) [I_ x2] 99 rfl lv12_215_plate_11 (al 53 rfl hn) (wk53 dy) (by decide) rfl (Nat.le_refl _) (Nat.le_refl _) ?_
    exact h
  · have h := h.2 q14
    refine v_aload_n 53 0 rfl rfl rfl ?_
    refine v_gK 54 rfl fl12_16_11.r (al 53 rfl hn) (wk53 dy) (by decide) rfl (r := 56) (wc53_4 dy) ?_
    refine v_bipush 55 rfl (by decide) ?_
    refine v_iload_n 56 1 rfl rfl rfl ?_
    refine v_imul 57 rfl ?_
    refine v_iload_n 58 3 rfl rfl rfl ?_
    refine v_iadd 59 rfl ?_
    have c3 := h.1
    have h := h.2
    refine v_la (N := 96) 60 rfl (al 56 rfl hn) (wk56 dy) (wn56 dy) (by decide) c3 (y := g 56 (((16 * x1) + x3).toNat)) rfl ?_
    refine v_rng fun w4 => ?_
    have r5 : i6 (g 56 (((16 * x1) + x3).toNat)) := rL w4 (q := (((16 * x1) + x3).toNat)) (al 56 rfl hn) (wk56 dy) rfl rfl
    refine v_lstore 61 [1, 2, 3, 4, 0] rfl (by decide) rfl ?_
    refine v_lload 62 4 rfl rfl ?_
    refine v_ldc2 (v := (-1000)) 63 rfl (tbG_in (List.mem_append_right _ (List.mem_of_getElem? (i := 1369) (by decide +kernel))) rfl) ?_
    refine v_lif_lt 64 rfl rfl (tgt := 117) rfl r5 (by decide) (fun q13 => ?_) (fun q13 => ?_)
    · have h := h.1 q13
      exact h
    · have h := h.2 q13
      refine v_lload 66 4 rfl rfl ?_
      refine v_ldc2 (v := 1000) 67 rfl (tbG_in (List.mem_append_right _ (List.mem_of_getElem? (i := 1370) (by decide +kernel))) rfl) ?_
      refine v_lif_le 68 rfl rfl (tgt := 124) rfl r5 (by decide) (fun q12 => ?_) (fun q12 => ?_)
      · have h := h.1 q12
        refine v_iload_n 74 3 rfl rfl rfl ?_
        refine v_iconst 75 rfl ?_
        refine v_irem 76 rfl c1 (by decide) (by decide) ?_
        have c6 := h.1
        have h := h.2
        refine v_if_ne 77 rfl (tgt := 144) rfl c6 (fun q11 => ?_) (fun q11 => ?_)
        · have h := h.1 q11
          refine v_aload_n 87 0 rfl rfl rfl ?_
          refine v_gK 88 rfl fl12_91_11.r (al 53 rfl hn) (wk53 dy) (by decide) rfl (r := 80) (wc53_31 dy) ?_
          refine v_iload_n 89 3 rfl rfl rfl ?_
          refine v_iconst 90 rfl ?_
          refine v_idiv 91 rfl c1 (by decide) (by decide) ?_
          refine v_lload 92 4 rfl rfl ?_
          refine v_l2i 93 rfl ?_
          have c7 := h.1
          have h := h.2
          have c8 := h.1
          have h := h.2
          refine v_iast (N := 8) 94 rfl (al 80 rfl hn) (wk80 dy) (wn80 dy) (by decide) c7 c8 ?_
          exact h
        · have h := h.2 q11
          refine v_aload_n 78 0 rfl rfl rfl ?_
          refine v_gK 79 rfl fl12_88_11.r (al 53 rfl hn) (wk53 dy) (by decide) rfl (r := 79) (wc53_30 dy) ?_
          refine v_iload_n 80 3 rfl rfl rfl ?_
          refine v_iconst 81 rfl ?_
          refine v_idiv 82 rfl c1 (by decide) (by decide) ?_
          refine v_lload 83 4 rfl rfl ?_
          refine v_l2i 84 rfl ?_
          have c9 := h.1
          have h := h.2
          have c10 := h.1
          have h := h.2
          refine v_iast (N := 8) 85 rfl (al 79 rfl hn) (wk79 dy) (wn79 dy) (by decide) c9 c10 ?_
          refine v_goto 86 rfl (tgt := 155) rfl ?_
          exact h
      · have h := h.2 q12
        exact h
set_option maxHeartbeats 8000000 in
set_option maxRecDepth 4000 in
theorem bX12_plate_117 {d n : Nat} {dy : Nat → Shp} {g : Hp} {P : Pst} {x1 : Int} {x2 : Int} {x3 : Int} {x4 : Int} (hn : 100 ≤ n) (h : Runs miX12_refuse d [.ref 53, I_ 7] n (W0 dy) g (fun v n' S' g' => V miX12_plate (d + 1) 123 [(0, .ref 53), (1, I_ x1), (2, I_ x2), (3, I_ x3), (4, L_ x4)] (v.toList ++ []) n' S' g' 0 0 P)) : V miX12_plate (d + 1) 117 [(0, .ref 53), (1, I_ x1), (2, I_ x2), (3, I_ x3), (4, L_ x4)] [] n (W0 dy) g 0 0 P := by
  refine v_aload_n 70 0 rfl rfl rfl ?_
  refine v_bipush 71 rfl (by decide) ?_
  refine v_callV (st := []) [I_ 7] 72 rfl lv12_174_plate_11 (al 53 rfl hn) (wk53 dy) (by decide) rfl (Nat.le_refl _) (Nat.le_refl _) ?_
  exact h
set_option maxHeartbeats 8000000 in
set_option maxRecDepth 4000 in
theorem bX12_plate_123 {d n : Nat} {dy : Nat → Shp} {g : Hp} {P : Pst} {x1 : Int} {x2 : Int} {x3 : Int} {x4 : Int} {xs0 : Int} (hn : 100 ≤ n) (h : P (some (I_ xs0)) n (W0 dy) g) : V miX12_plate (d + 1) 123 [(0, .ref 53), (1, I_ x1), (2, I_ x2), (3, I_ x3), (4, L_ x4)] [I_ xs0] n (W0 dy) g 0 0 P := by
  exact v_ret (v := some (I_ xs0)) 73 rfl (Nat.zero_le _) (Nat.zero_le _) trivial rfl h
set_option maxHeartbeats 8000000 in
set_option maxRecDepth 4000 in
theorem bX12_plate_155 {d n : Nat} {dy : Nat → Shp} {g : Hp} {P : Pst} {x1 : Int} {x2 : Int} {x3 : Int} {x4 : Int} (hn : 100 ≤ n) (h : V miX12_plate (d + 1) 79 [(0, .ref 53), (1, I_ x1), (2, I_ x2), (3, I_ (x3 + 1))] [] n (W0 dy) g 0 0 P) : V miX12_plate (d + 1) 155 [(0, .ref 53), (1, I_ x1), (2, I_ x2), (3, I_ x3), (4, L_ x4)] [] n (W0 dy) g 0 0 P := by
  refine v_iinc 95 3 [1, 2, 3, 0, 4] rfl rfl (by decide) rfl ?_
  refine v_goto 96 rfl (tgt := 79) rfl ?_
  refine v_loc [0, 1, 2, 3] rfl ?_
  exact h
set_option maxHeartbeats 8000000 in
set_option maxRecDepth 4000 in
theorem bX12_plate_166 {d n : Nat} {dy : Nat → Shp} {g : Hp} {P : Pst} {x1 : Int} {x2 : Int} {x3 : Int} {xs0 : Int} (hn : 100 ≤ n) (h : (i3 xs0) ∧ ((xs0 ≠ 0) → (((g 53 5) ≠ 60) → V miX12_plate (d + 1) 197 [(0, .ref 53), (1, I_ x1), (2, I_ x2), (3, L_ 0), (5, I_ 0)] [] n (W0 dy) g 0 0 P) ∧ (((g 53 5) = 60) → Runs miX12_refuse d [.ref 53, I_ 10] n (W0 dy) g (fun v n' S' g' => V miX12_plate (d + 1) 191 [(0, .ref 53), (1, I_ x1), (2, I_ x2), (3, I_ x3)] (v.toList ++ []) n' S' g' 0 0 P))) ∧ ((xs0 = 0) → Runs miX12_refuse d [.ref 53, I_ 12] n (W0 dy) g (fun v n' S' g' => V miX12_plate (d + 1) 175 [(0, .ref 53), (1, I_ x1), (2, I_ x2), (3, I_ x3)] (v.toList ++ []) n' S' g' 0 0 P))) : V miX12_plate (d + 1) 166 [(0, .ref 53), (1, I_ x1), (2, I_ x2), (3, I_ x3)] [I_ xs0] n (W0 dy) g 0 0 P := by
  have c1 := h.1
  have h := h.2
  refine v_if_ne 100 rfl (tgt := 176) rfl c1 (fun q5 => ?_) (fun q5 => ?_)
  · have h := h.1 q5
    refine v_aload_n 105 0 rfl rfl rfl ?_
    refine v_gI 106 rfl fl12_169_11.r (al 53 rfl hn) (wk53 dy) (by decide) rfl (wc53_5 dy) (x := g 53 5) rfl ?_
    refine v_rng fun w2 => ?_
    have r3 : i3 (g 53 5) := rI w2 (q := 5) (al 53 rfl hn) (wk53 dy) rfl rfl
    refine v_bipush 107 rfl (by decide) ?_
    refine v_icmp_ne 108 rfl (tgt := 192) rfl r3 (by decide) (fun q4 => ?_) (fun q4 => ?_)
    · have h := h.1 q4
      refine v_lconst (v := 0) 113 rfl (by decide) ?_
      refine v_lstore_n 114 [1, 2, 3, 0] rfl rfl (by decide) rfl ?_
      refine v_iconst 115 rfl ?_
      refine v_istore 116 [1, 2, 3, 4, 0] rfl (by decide) rfl ?_
      exact h
    · have h := h.2 q4
      refine v_aload_n 109 0 rfl rfl rfl ?_
      refine v_bipush 110 rfl (by decide) ?_
      refine v_callV (st := []) [I_ 10] 111 rfl lv12_174_plate_11 (al 53 rfl hn) (wk53 dy) (by decide) rfl (Nat.le_refl _) (Nat.le_refl _) ?_
      exact h
  · have h := h.2 q5
    refine v_aload_n 101 0 rfl rfl rfl ?_
    refine v_bipush 102 rfl (by decide) ?_
    refine v_callV (st := []) [I_ 12] 103 rfl lv12_174_plate_11 (al 53 rfl hn) (wk53 dy) (by decide) rfl (Nat.le_refl _) (Nat.le_refl _) ?_
    exact h
set_option maxHeartbeats 8000000 in
set_option maxRecDepth 4000 in
theorem bX12_plate_175 {d n : Nat} {dy : Nat → Shp} {g : Hp} {P : Pst} {x1 : Int} {x2 : Int} {x3 : Int} {xs0 : Int} (hn : 100 ≤ n) (h : P (some (I_ xs0)) n (W0 dy) g) : V miX12_plate (d + 1) 175 [(0, .ref 53), (1, I_ x1), (2, I_ x2), (3, I_ x3)] [I_ xs0] n (W0 dy) g 0 0 P := by
  exact v_ret (v := some (I_ xs0)) 104 rfl (Nat.zero_le _) (Nat.zero_le _) trivial rfl h
set_option maxHeartbeats 8000000 in
set_option maxRecDepth 4000 in
theorem bX12_plate_191 {d n : Nat} {dy : Nat → Shp} {g : Hp} {P : Pst} {x1 : Int} {x2 : Int} {x3 : Int} {xs0 : Int} (hn : 100 ≤ n) (h : P (some (I_ xs0)) n (W0 dy) g) : V miX12_plate (d + 1) 191 [(0, .ref 53), (1, I_ x1), (2, I_ x2), (3, I_ x3)] [I_ xs0] n (W0 dy) g 0 0 P := by
  exact v_ret (v := some (I_ xs0)) 112 rfl (Nat.zero_le _) (Nat.zero_le _) trivial rfl h
set_option maxHeartbeats 8000000 in
set_option maxRecDepth 4000 in
theorem bX12_plate_197 {d n : Nat} {dy : Nat → Shp} {g : Hp} {P : Pst} {x1 : Int} {x2 : Int} {x3 : Int} {x5 : Int} (hn : 100 ≤ n) (h : (i3 x5) ∧ (i3 x2) ∧ ((x2 ≤ x5) → Runs miJ9_abs_067f4 d [L_ x3] n (W0 dy) g (fun v n' S' g' => V miX12_plate (d + 1) 261 [(0, .ref 53), (1, I_ x1), (2, I_ x2), (3, L_ x3), (5, I_ x5)] (v.toList ++ [I_ 4, .ref 53]) n' S' g' 0 0 P)) ∧ ((x5 < x2) → (0 ≤ x5 ∧ x5 < 8) ∧ (i3 (x5 + 1)) ∧ (x2 ≠ 0) ∧ (0 ≤ (x5 + 1).tmod x2 ∧ (x5 + 1).tmod x2 < 8) ∧ (x2 ≠ 0) ∧ V miX12_plate (d + 1) 197 [(0, .ref 53), (1, I_ x1), (2, I_ x2), (3, L_ (x3 + (((g 79 x5.toNat) * (g 80 (((x5 + 1).tmod x2).toNat))) - ((g 79 (((x5 + 1).tmod x2).toNat)) * (g 80 x5.toNat))))), (5, I_ (x5 + 1))] [] n (W0 dy) g 0 0 P)) : V miX12_plate (d + 1) 197 [(0, .ref 53), (1, I_ x1), (2, I_ x2), (3, L_ x3), (5, I_ x5)] [] n (W0 dy) g 0 0 P := by
  refine v_iload 117 4 rfl rfl ?_
  refine v_iload_n 118 2 rfl rfl rfl ?_
  have c1 := h.1
  have h := h.2
  have c2 := h.1
  have h := h.2
  refine v_icmp_ge 119 rfl (tgt := 255) rfl c1 c2 (fun q16 => ?_) (fun q16 => ?_)
  · have h := h.1 q16
    refine v_aload_n 156 0 rfl rfl rfl ?_
    refine v_iconst 157 rfl ?_
    refine v_lload_n 158 3 rfl rfl rfl ?_
    refine v_callS (st := [I_ 4, .ref 53]) [L_ x3] 159 rfl ls12_218_plate rfl (Nat.lt_of_lt_of_le (by decide) hn) (Nat.le_refl _) (Nat.le_refl _) ?_
    exact h
  · have h := h.2 q16
    refine v_lload_n 120 3 rfl rfl rfl ?_
    refine v_aload_n 121 0 rfl rfl rfl ?_
    refine v_gK 122 rfl fl12_88_11.r (al 53 rfl hn) (wk53 dy) (by decide) rfl (r := 79) (wc53_30 dy) ?_
    refine v_iload 123 4 rfl rfl ?_
    have c3 := h.1
    have h := h.2
    refine v_ia (N := 8) 124 rfl (al 79 rfl hn) (wk79 dy) (wn79 dy) (by decide) c3 (y := g 79 x5.toNat) rfl ?_
    refine v_rng fun w4 => ?_
    have r5 : i3 (g 79 x5.toNat) := rI w4 (q := x5.toNat) (al 79 rfl hn) (wk79 dy) rfl rfl
    refine v_i2l 125 rfl r5 ?_
    refine v_aload_n 126 0 rfl rfl rfl ?_
    refine v_gK 127 rfl fl12_91_11.r (al 53 rfl hn) (wk53 dy) (by decide) rfl (r := 80) (wc53_31 dy) ?_
    refine v_iload 128 4 rfl rfl ?_
    refine v_iconst 129 rfl ?_
    refine v_iadd 130 rfl ?_
    refine v_iload_n 131 2 rfl rfl rfl ?_
    have c6 := h.1
    have h := h.2
    have c7 := h.1
    have h := h.2
    refine v_irem 132 rfl c6 c2 c7 ?_
    have c8 := h.1
    have h := h.2
    refine v_ia (N := 8) 133 rfl (al 80 rfl hn) (wk80 dy) (wn80 dy) (by decide) c8 (y := g 80 (((x5 + 1).tmod x2).toNat)) rfl ?_
    refine v_rng fun w9 => ?_
    have r10 : i3 (g 80 (((x5 + 1).tmod x2).toNat)) := rI w9 (q := (((x5 + 1).tmod x2).toNat)) (al 80 rfl hn) (wk80 dy) rfl rfl
    refine v_i2l 134 rfl r10 ?_
    refine v_lmul 135 rfl ?_
    refine v_aload_n 136 0 rfl rfl rfl ?_
    refine v_gK 137 rfl fl12_88_11.r (al 53 rfl hn) (wk53 dy) (by decide) rfl (r := 79) (wc53_30 dy) ?_
    refine v_iload 138 4 rfl rfl ?_
    refine v_iconst 139 rfl ?_
    refine v_iadd 140 rfl ?_
    refine v_iload_n 141 2 rfl rfl rfl ?_
    have c11 := h.1
    have h := h.2
    refine v_irem 142 rfl c6 c2 c11 ?_
    refine v_ia (N := 8) 143 rfl (al 79 rfl hn) (wk79 dy) (wn79 dy) (by decide) c8 (y := g 79 (((x5 + 1).tmod x2).toNat)) rfl ?_
    refine v_rng fun w12 => ?_
    have r13 : i3 (g 79 (((x5 + 1).tmod x2).toNat)) := rI w12 (q := (((x5 + 1).tmod x2).toNat)) (al 79 rfl hn) (wk79 dy) rfl rfl
    refine v_i2l 144 rfl r13 ?_
    refine v_aload_n 145 0 rfl rfl rfl ?_
    refine v_gK 146 rfl fl12_91_11.r (al 53 rfl hn) (wk53 dy) (by decide) rfl (r := 80) (wc53_31 dy) ?_
    refine v_iload 147 4 rfl rfl ?_
    refine v_ia (N := 8) 148 rfl (al 80 rfl hn) (wk80 dy) (wn80 dy) (by decide) c3 (y := g 80 x5.toNat) rfl ?_
    refine v_rng fun w14 => ?_
    have r15 : i3 (g 80 x5.toNat) := rI w14 (q := x5.toNat) (al 80 rfl hn) (wk80 dy) rfl rfl
    refine v_i2l 149 rfl r15 ?_
    refine v_lmul 150 rfl ?_
    refine v_lsub 151 rfl ?_
    refine v_ladd 152 rfl ?_
    refine v_lstore_n 153 [1, 2, 3, 0, 4] rfl rfl (by decide) rfl ?_
    refine v_iinc 154 4 [1, 2, 3, 4, 0] rfl rfl (by decide) rfl ?_
    refine v_goto 155 rfl (tgt := 197) rfl ?_
    exact h
set_option maxHeartbeats 8000000 in
set_option maxRecDepth 4000 in
theorem bX12_plate_261 {d n : Nat} {dy : Nat → Shp} {g : Hp} {P : Pst} {x1 : Int} {x2 : Int} {x3 : Int} {x5 : Int} {xs1 : Int} {xs2 : Int} (hn : 100 ≤ n) (h : Runs miX12_newPart d [.ref 53, I_ xs1, L_ xs2] n (W0 dy) g (fun v n' S' g' => V miX12_plate (d + 1) 264 [(0, .ref 53), (1, I_ x1), (2, I_ x2), (3, L_ x3), (5, I_ x5)] (v.toList ++ []) n' S' g' 0 0 P)) : V miX12_plate (d + 1) 261 [(0, .ref 53), (1, I_ x1), (2, I_ x2), (3, L_ x3), (5, I_ x5)] [L_ xs2, I_ xs1, .ref 53] n (W0 dy) g 0 0 P := by
  refine v_callV (st := []) [I_ xs1, L_ xs2] 160 rfl lv12_178_plate_11 (al 53 rfl hn) (wk53 dy) (by decide) rfl (Nat.le_refl _) (Nat.le_refl _) ?_
  exact h
set_option maxHeartbeats 8000000 in
set_option maxRecDepth 4000 in
theorem bX12_plate_264 {d n : Nat} {dy : Nat → Shp} {g : Hp} {P : Pst} {x1 : Int} {x2 : Int} {x3 : Int} {x5 : Int} {xs0 : Int} (hn : 100 ≤ n) (h : (0 ≤ xs0 ∧ xs0 < 60) ∧ (i3 x2) ∧ V miX12_plate (d + 1) 277 [(0, .ref 53), (1, I_ x1), (2, I_ x2), (3, L_ x3), (5, I_ xs0), (6, I_ 0)] [] n (W0 dy) (up2 g 68 xs0.toNat x2) 0 0 P) : V miX12_plate (d + 1) 264 [(0, .ref 53), (1, I_ x1), (2, I_ x2), (3, L_ x3), (5, I_ x5)] [I_ xs0] n (W0 dy) g 0 0 P := by
  refine v_istore 161 [1, 2, 3, 4, 0] rfl (by decide) rfl ?_
  refine v_aload_n 162 0 rfl rfl rfl ?_
  refine v_gK 163 rfl fl12_53_11.r (al 53 rfl hn) (wk53 dy) (by decide) rfl (r := 68) (wc53_17 dy) ?_
  refine v_iload 164 4 rfl rfl ?_
  refine v_iload_n 165 2 rfl rfl rfl ?_
  have c1 := h.1
  have h := h.2
  have c2 := h.1
  have h := h.2
  refine v_iast (N := 60) 166 rfl (al 68 rfl hn) (wk68 dy) (wn68 dy) (by decide) c1 c2 ?_
  refine v_iconst 167 rfl ?_
  refine v_istore 168 [1, 2, 3, 4, 5, 0] rfl (by decide) rfl ?_
  exact h
set_option maxHeartbeats 8000000 in
set_option maxRecDepth 4000 in
theorem bX12_plate_277 {d n : Nat} {dy : Nat → Shp} {g : Hp} {P : Pst} {x1 : Int} {x2 : Int} {x3 : Int} {x5 : Int} {x6 : Int} (hn : 100 ≤ n) (h : (i3 x6) ∧ (i3 x2) ∧ ((x2 ≤ x6) → P (some (I_ x5)) n (W0 dy) g) ∧ ((x6 < x2) → (0 ≤ x6 ∧ x6 < 8) ∧ (0 ≤ (8 * x5) + x6 ∧ (8 * x5) + x6 < 480) ∧ V miX12_plate (d + 1) 277 [(0, .ref 53), (1, I_ x1), (2, I_ x2), (3, L_ x3), (5, I_ x5), (6, I_ (x6 + 1))] [] n (W0 dy) (up2 (up2 g 69 (((8 * x5) + x6).toNat) (g 79 x6.toNat)) 70 (((8 * x5) + x6).toNat) (g 80 x6.toNat)) 0 0 P)) : V miX12_plate (d + 1) 277 [(0, .ref 53), (1, I_ x1), (2, I_ x2), (3, L_ x3), (5, I_ x5), (6, I_ x6)] [] n (W0 dy) g 0 0 P := by
  refine v_iload 169 5 rfl rfl ?_
  refine v_iload_n 170 2 rfl rfl rfl ?_
  have c1 := h.1
  have h := h.2
  have c2 := h.1
  have h := h.2
  refine v_icmp_ge 171 rfl (tgt := 329) rfl c1 c2 (fun q9 => ?_) (fun q9 => ?_)
  · have h := h.1 q9
    refine v_iload 198 4 rfl rfl ?_
    exact v_ret (v := some (I_ x5)) 199 rfl (Nat.zero_le _) (Nat.zero_le _) trivial rfl h
  · have h := h.2 q9
    refine v_aload_n 172 0 rfl rfl rfl ?_
    refine v_gK 173 rfl fl12_56_11.r (al 53 rfl hn) (wk53 dy) (by decide) rfl (r := 69) (wc53_18 dy) ?_
    refine v_bipush 174 rfl (by decide) ?_
    refine v_iload 175 4 rfl rfl ?_
    refine v_imul 176 rfl ?_
    refine v_iload 177 5 rfl rfl ?_
    refine v_iadd 178 rfl ?_
    refine v_aload_n 179 0 rfl rfl rfl ?_
    refine v_gK 180 rfl fl12_88_11.r (al 53 rfl hn) (wk53 dy) (by decide) rfl (r := 79) (wc53_30 dy) ?_
    refine v_iload 181 5 rfl rfl ?_
    have c3 := h.1
    have h := h.2
    refine v_ia (N := 8) 182 rfl (al 79 rfl hn) (wk79 dy) (wn79 dy) (by decide) c3 (y := g 79 x6.toNat) rfl ?_
    refine v_rng fun w4 => ?_
    have r5 : i3 (g 79 x6.toNat) := rI w4 (q := x6.toNat) (al 79 rfl hn) (wk79 dy) rfl rfl
    have c6 := h.1
    have h := h.2
    refine v_iast (N := 480) 183 rfl (al 69 rfl hn) (wk69 dy) (wn69 dy) (by decide) c6 r5 ?_
    refine v_aload_n 184 0 rfl rfl rfl ?_
    refine v_gK 185 rfl fl12_59_11.r (al 53 rfl hn) (wk53 dy) (by decide) rfl (r := 70) (wc53_19 dy) ?_
    refine v_bipush 186 rfl (by decide) ?_
    refine v_iload 187 4 rfl rfl ?_
    refine v_imul 188 rfl ?_
    refine v_iload 189 5 rfl rfl ?_
    refine v_iadd 190 rfl ?_
    refine v_aload_n 191 0 rfl rfl rfl ?_
    refine v_gK 192 rfl fl12_91_11.r (al 53 rfl hn) (wk53 dy) (by decide) rfl (r := 80) (wc53_31 dy) ?_
    refine v_iload 193 5 rfl rfl ?_
    refine v_ia (N := 8) 194 rfl (al 80 rfl hn) (wk80 dy) (wn80 dy) (by decide) c3 (y := g 80 x6.toNat) rfl ?_
    refine v_rng fun w7 => ?_
    have r8 : i3 (g 80 x6.toNat) := rI w7 (q := x6.toNat) (al 80 rfl hn) (wk80 dy) rfl rfl
    refine v_iast (N := 480) 195 rfl (al 70 rfl hn) (wk70 dy) (wn70 dy) (by decide) c6 r8 ?_
    refine v_iinc 196 5 [1, 2, 3, 4, 5, 0] rfl rfl (by decide) rfl ?_
    refine v_goto 197 rfl (tgt := 277) rfl ?_
    exact h
theorem ls12_218_common : LkS miX12_common miJ9_abs_067f4 218 1 := ⟨⟨⟨tbG_in (List.mem_append_right _ (List.mem_of_getElem? (i := 569) (by decide +kernel))) rfl, tbG_in (List.mem_append_right _ (List.mem_of_getElem? (i := 15) (by decide +kernel))) rfl, tbG_in (List.mem_append_right _ (List.mem_of_getElem? (i := 1392) (by decide +kernel))) rfl⟩, ⟨by decide +kernel, by decide +kernel, by decide +kernel⟩, by decide⟩, tbG_in (List.mem_append_right _ (List.mem_of_getElem? (i := 568) (by decide +kernel))) rfl⟩
set_option maxHeartbeats 8000000 in
set_option maxRecDepth 4000 in
theorem bX12_common_0 {d n : Nat} {dy : Nat → Shp} {g : Hp} {P : Pst} {x0 : Int} {x2 : Int} (hn : 100 ≤ n) (h : Runs miJ9_abs_067f4 d [L_ x0] n (W0 dy) g (fun v n' S' g' => V miX12_common (d + 1) 4 [(0, L_ x0), (2, L_ x2)] (v.toList ++ []) n' S' g' 0 0 P)) : V miX12_common (d + 1) 0 [(0, L_ x0), (2, L_ x2)] [] n (W0 dy) g 0 0 P := by
  refine v_lload_n 0 0 rfl rfl rfl ?_
  refine v_callS (st := []) [L_ x0] 1 rfl ls12_218_common rfl (Nat.lt_of_lt_of_le (by decide) hn) (Nat.le_refl _) (Nat.le_refl _) ?_
  exact h
set_option maxHeartbeats 8000000 in
set_option maxRecDepth 4000 in
theorem bX12_common_4 {d n : Nat} {dy : Nat → Shp} {g : Hp} {P : Pst} {x0 : Int} {x2 : Int} {xs0 : Int} (hn : 100 ≤ n) (h : Runs miJ9_abs_067f4 d [L_ x2] n (W0 dy) g (fun v n' S' g' => V miX12_common (d + 1) 10 [(0, L_ x0), (2, L_ x2), (4, L_ xs0)] (v.toList ++ []) n' S' g' 0 0 P)) : V miX12_common (d + 1) 4 [(0, L_ x0), (2, L_ x2)] [L_ xs0] n (W0 dy) g 0 0 P := by
  refine v_lstore 2 [1, 2, 0] rfl (by decide) rfl ?_
  refine v_lload_n 3 1 rfl rfl rfl ?_
  refine v_callS (st := []) [L_ x2] 4 rfl ls12_218_common rfl (Nat.lt_of_lt_of_le (by decide) hn) (Nat.le_refl _) (Nat.le_refl _) ?_
  exact h
set_option maxHeartbeats 8000000 in
set_option maxRecDepth 4000 in
theorem bX12_common_10 {d n : Nat} {dy : Nat → Shp} {g : Hp} {P : Pst} {x0 : Int} {x2 : Int} {x4 : Int} {xs0 : Int} (hn : 100 ≤ n) (h : V miX12_common (d + 1) 12 [(0, L_ x0), (2, L_ x2), (4, L_ x4), (6, L_ xs0)] [] n (W0 dy) g 0 0 P) : V miX12_common (d + 1) 10 [(0, L_ x0), (2, L_ x2), (4, L_ x4)] [L_ xs0] n (W0 dy) g 0 0 P := by
  refine v_lstore 5 [1, 2, 3, 0] rfl (by decide) rfl ?_
  exact h
set_option maxHeartbeats 8000000 in
set_option maxRecDepth 4000 in
theorem bX12_common_12 {d n : Nat} {dy : Nat → Shp} {g : Hp} {P : Pst} {x0 : Int} {x2 : Int} {x4 : Int} {x6 : Int} (hn : 100 ≤ n) (h : (i6 x6) ∧ ((x6 = 0) → P (some (L_ x4)) n (W0 dy) g) ∧ ((x6 ≠ 0) → (i6 x4) ∧ (x6 ≠ 0) ∧ V miX12_common (d + 1) 12 [(0, L_ x0), (2, L_ x2), (4, L_ x6), (6, L_ (x4.tmod x6))] [] n (W0 dy) g 0 0 P)) : V miX12_common (d + 1) 12 [(0, L_ x0), (2, L_ x2), (4, L_ x4), (6, L_ x6)] [] n (W0 dy) g 0 0 P := by
  refine v_lload 6 3 rfl rfl ?_
  refine v_lconst (v := 0) 7 rfl (by decide) ?_
  have c1 := h.1
  have h := h.2
  refine v_lif_eq 8 rfl rfl (tgt := 37) rfl c1 (by decide) (fun q4 => ?_) (fun q4 => ?_)
  · have h := h.1 q4
    refine v_lload 19 2 rfl rfl ?_
    exact v_ret (v := some (L_ x4)) 20 rfl (Nat.zero_le _) (Nat.zero_le _) trivial rfl h
  · have h := h.2 q4
    refine v_lload 10 2 rfl rfl ?_
    refine v_lload 11 3 rfl rfl ?_
    have c2 := h.1
    have h := h.2
    have c3 := h.1
    have h := h.2
    refine v_lrem 12 rfl c2 c1 c3 ?_
    refine v_lstore 13 [1, 2, 3, 4, 0] rfl (by decide) rfl ?_
    refine v_lload 14 3 rfl rfl ?_
    refine v_lstore 15 [1, 2, 0, 3, 4] rfl (by decide) rfl ?_
    refine v_lload 16 4 rfl rfl ?_
    refine v_lstore 17 [1, 2, 3, 0, 4] rfl (by decide) rfl ?_
    refine v_goto 18 rfl (tgt := 12) rfl ?_
    refine v_loc [0, 1, 2, 3] rfl ?_
    exact h
theorem lv12_222_middle_11 : LkV miX12_middle miX12_isPart 222 1 11 := ⟨⟨⟨tbG_in (List.mem_append_right _ (List.mem_of_getElem? (i := 1400) (by decide +kernel))) rfl, tbG_in (List.mem_append_right _ (List.mem_of_getElem? (i := 9) (by decide +kernel))) rfl, tbG_in (List.mem_append_right _ (List.mem_of_getElem? (i := 1397) (by decide +kernel))) rfl⟩, ⟨by decide +kernel, by decide +kernel, by decide +kernel⟩, by decide⟩, tbG_in (List.mem_append_right _ (List.mem_of_getElem? (i := 1399) (by decide +kernel))) rfl, RX12, TX12, 58, rfl, tbG_in (List.mem_append_left _ (List.mem_of_getElem? (i := 56) (by decide +kernel))) rfl⟩
theorem lv12_174_middle_11 : LkV miX12_middle miX12_refuse 174 1 11 := ⟨⟨⟨tbG_in (List.mem_append_right _ (List.mem_of_getElem? (i := 1351) (by decide +kernel))) rfl, tbG_in (List.mem_append_right _ (List.mem_of_getElem? (i := 9) (by decide +kernel))) rfl, tbG_in (List.mem_append_right _ (List.mem_of_getElem? (i := 1348) (by decide +kernel))) rfl⟩, ⟨by decide +kernel, by decide +kernel, by decide +kernel⟩, by decide⟩, tbG_in (List.mem_append_right _ (List.mem_of_getElem? (i := 1350) (by decide +kernel))) rfl, RX12, TX12, 58, rfl, tbG_in (List.mem_append_left _ (List.mem_of_getElem? (i := 50) (by decide +kernel))) rfl⟩
theorem ls12_227_middle : LkS miX12_middle miX12_common 227 2 := ⟨⟨⟨tbG_in (List.mem_append_right _ (List.mem_of_getElem? (i := 1404) (by decide +kernel))) rfl, tbG_in (List.mem_append_right _ (List.mem_of_getElem? (i := 9) (by decide +kernel))) rfl, tbG_in (List.mem_append_right _ (List.mem_of_getElem? (i := 1402) (by decide +kernel))) rfl⟩, ⟨by decide +kernel, by decide +kernel, by decide +kernel⟩, by decide⟩, tbG_in (List.mem_append_right _ (List.mem_of_getElem? (i := 1403) (by decide +kernel))) rfl⟩
set_option maxHeartbeats 8000000 in
set_option maxRecDepth 4000 in
theorem bX12_middle_0 {d n : Nat} {dy : Nat → Shp} {g : Hp} {P : Pst} {x1 : Int} {x2 : Int} (hn : 100 ≤ n) (h : Runs miX12_isPart d [.ref 53, I_ x1] n (W0 dy) (up2 (up2 g 53 1 0) 53 0 0) (fun v n' S' g' => V miX12_middle (d + 1) 15 [(0, .ref 53), (1, I_ x1), (2, I_ x2)] (v.toList ++ []) n' S' g' 0 0 P)) : V miX12_middle (d + 1) 0 [(0, .ref 53), (1, I_ x1), (2, I_ x2)] [] n (W0 dy) g 0 0 P := by
  refine v_aload_n 0 0 rfl rfl rfl ?_
  refine v_iconst 1 rfl ?_
  refine v_putI 2 rfl fl12_148_11 (al 53 rfl hn) (wk53 dy) (by decide) rfl (wc53_1 dy) (by decide) ?_
  refine v_aload_n 3 0 rfl rfl rfl ?_
  refine v_iconst 4 rfl ?_
  refine v_putI 5 rfl fl12_152_11 (al 53 rfl hn) (wk53 dy) (by decide) rfl (wc53_0 dy) (by decide) ?_
  refine v_aload_n 6 0 rfl rfl rfl ?_
  refine v_iload_n 7 1 rfl rfl rfl ?_
  refine v_callV (st := []) [I_ x1] 8 rfl lv12_222_middle_11 (al 53 rfl hn) (wk53 dy) (by decide) rfl (Nat.le_refl _) (Nat.le_refl _) ?_
  exact h
set_option maxHeartbeats 8000000 in
set_option maxRecDepth 4000 in
theorem bX12_middle_15 {d n : Nat} {dy : Nat → Shp} {g : Hp} {P : Pst} {x1 : Int} {x2 : Int} {xs0 : Int} (hn : 100 ≤ n) (h : (i3 xs0) ∧ ((xs0 ≠ 0) → (0 ≤ x1 ∧ x1 < 60) ∧ (((g 57 x1.toNat) = 4) → (i3 x2) ∧ ((x2 < 0) → V miX12_middle (d + 1) 51 [(0, .ref 53), (1, I_ x1), (2, I_ x2)] [] n (W0 dy) g 0 0 P) ∧ ((0 ≤ x2) → ((x2 ≤ 3) → V miX12_middle (d + 1) 67 [(0, .ref 53), (1, I_ x1), (2, I_ x2), (3, L_ 0), (5, L_ 0), (7, I_ 0)] [] n (W0 dy) g 0 0 P) ∧ ((3 < x2) → V miX12_middle (d + 1) 51 [(0, .ref 53), (1, I_ x1), (2, I_ x2)] [] n (W0 dy) g 0 0 P))) ∧ (((g 57 x1.toNat) ≠ 4) → Runs miX12_refuse d [.ref 53, I_ 5] n (W0 dy) g (fun v n' S' g' => V miX12_middle (d + 1) 40 [(0, .ref 53), (1, I_ x1), (2, I_ x2)] (v.toList ++ []) n' S' g' 0 0 P))) ∧ ((xs0 = 0) → Runs miX12_refuse d [.ref 53, I_ 2] n (W0 dy) g (fun v n' S' g' => V miX12_middle (d + 1) 23 [(0, .ref 53), (1, I_ x1), (2, I_ x2)] (v.toList ++ []) n' S' g' 0 0 P))) : V miX12_middle (d + 1) 15 [(0, .ref 53), (1, I_ x1), (2, I_ x2)] [I_ xs0] n (W0 dy) g 0 0 P := by
  have c1 := h.1
  have h := h.2
  refine v_if_ne 9 rfl (tgt := 25) rfl c1 (fun q9 => ?_) (fun q9 => ?_)
  · have h := h.1 q9
    refine v_aload_n 15 0 rfl rfl rfl ?_
    refine v_gK 16 rfl fl12_20_11.r (al 53 rfl hn) (wk53 dy) (by decide) rfl (r := 57) (wc53_6 dy) ?_
    refine v_iload_n 17 1 rfl rfl rfl ?_
    have c2 := h.1
    have h := h.2
    refine v_ia (N := 60) 18 rfl (al 57 rfl hn) (wk57 dy) (wn57 dy) (by decide) c2 (y := g 57 x1.toNat) rfl ?_
    refine v_rng fun w3 => ?_
    have r4 : i3 (g 57 x1.toNat) := rI w3 (q := x1.toNat) (al 57 rfl hn) (wk57 dy) rfl rfl
    refine v_iconst 19 rfl ?_
    refine v_icmp_eq 20 rfl (tgt := 42) rfl r4 (by decide) (fun q8 => ?_) (fun q8 => ?_)
    · have h := h.1 q8
      refine v_iload_n 26 2 rfl rfl rfl ?_
      have c5 := h.1
      have h := h.2
      refine v_if_lt 27 rfl (tgt := 51) rfl c5 (fun q7 => ?_) (fun q7 => ?_)
      · have h := h.1 q7
        exact h
      · have h := h.2 q7
        refine v_iload_n 28 2 rfl rfl rfl ?_
        refine v_iconst 29 rfl ?_
        refine v_icmp_le 30 rfl (tgt := 59) rfl c5 (by decide) (fun q6 => ?_) (fun q6 => ?_)
        · have h := h.1 q6
          refine v_lconst (v := 0) 36 rfl (by decide) ?_
          refine v_lstore_n 37 [1, 2, 3, 0] rfl rfl (by decide) rfl ?_
          refine v_lconst (v := 0) 38 rfl (by decide) ?_
          refine v_lstore 39 [1, 2, 3, 4, 0] rfl (by decide) rfl ?_
          refine v_iconst 40 rfl ?_
          refine v_istore 41 [1, 2, 3, 4, 5, 0] rfl (by decide) rfl ?_
          exact h
        · have h := h.2 q6
          exact h
    · have h := h.2 q8
      refine v_aload_n 21 0 rfl rfl rfl ?_
      refine v_iconst 22 rfl ?_
      refine v_callV (st := []) [I_ 5] 23 rfl lv12_174_middle_11 (al 53 rfl hn) (wk53 dy) (by decide) rfl (Nat.le_refl _) (Nat.le_refl _) ?_
      exact h
  · have h := h.2 q9
    refine v_aload_n 10 0 rfl rfl rfl ?_
    refine v_iconst 11 rfl ?_
    refine v_callV (st := []) [I_ 2] 12 rfl lv12_174_middle_11 (al 53 rfl hn) (wk53 dy) (by decide) rfl (Nat.le_refl _) (Nat.le_refl _) ?_
    exact h
set_option maxHeartbeats 8000000 in
set_option maxRecDepth 4000 in
theorem bX12_middle_23 {d n : Nat} {dy : Nat → Shp} {g : Hp} {P : Pst} {x1 : Int} {x2 : Int} {xs0 : Int} (hn : 100 ≤ n) (h : (i3 xs0) ∧ P (some (L_ xs0)) n (W0 dy) g) : V miX12_middle (d + 1) 23 [(0, .ref 53), (1, I_ x1), (2, I_ x2)] [I_ xs0] n (W0 dy) g 0 0 P := by
  have c1 := h.1
  have h := h.2
  refine v_i2l 13 rfl c1 ?_
  exact v_ret (v := some (L_ xs0)) 14 rfl (Nat.zero_le _) (Nat.zero_le _) trivial rfl h
set_option maxHeartbeats 8000000 in
set_option maxRecDepth 4000 in
theorem bX12_middle_40 {d n : Nat} {dy : Nat → Shp} {g : Hp} {P : Pst} {x1 : Int} {x2 : Int} {xs0 : Int} (hn : 100 ≤ n) (h : (i3 xs0) ∧ P (some (L_ xs0)) n (W0 dy) g) : V miX12_middle (d + 1) 40 [(0, .ref 53), (1, I_ x1), (2, I_ x2)] [I_ xs0] n (W0 dy) g 0 0 P := by
  have c1 := h.1
  have h := h.2
  refine v_i2l 24 rfl c1 ?_
  exact v_ret (v := some (L_ xs0)) 25 rfl (Nat.zero_le _) (Nat.zero_le _) trivial rfl h
set_option maxHeartbeats 8000000 in
set_option maxRecDepth 4000 in
theorem bX12_middle_51 {d n : Nat} {dy : Nat → Shp} {g : Hp} {P : Pst} {x1 : Int} {x2 : Int} (hn : 100 ≤ n) (h : Runs miX12_refuse d [.ref 53, I_ 7] n (W0 dy) g (fun v n' S' g' => V miX12_middle (d + 1) 57 [(0, .ref 53), (1, I_ x1), (2, I_ x2)] (v.toList ++ []) n' S' g' 0 0 P)) : V miX12_middle (d + 1) 51 [(0, .ref 53), (1, I_ x1), (2, I_ x2)] [] n (W0 dy) g 0 0 P := by
  refine v_aload_n 31 0 rfl rfl rfl ?_
  refine v_bipush 32 rfl (by decide) ?_
  refine v_callV (st := []) [I_ 7] 33 rfl lv12_174_middle_11 (al 53 rfl hn) (wk53 dy) (by decide) rfl (Nat.le_refl _) (Nat.le_refl _) ?_
  exact h
set_option maxHeartbeats 8000000 in
set_option maxRecDepth 4000 in
theorem bX12_middle_57 {d n : Nat} {dy : Nat → Shp} {g : Hp} {P : Pst} {x1 : Int} {x2 : Int} {xs0 : Int} (hn : 100 ≤ n) (h : (i3 xs0) ∧ P (some (L_ xs0)) n (W0 dy) g) : V miX12_middle (d + 1) 57 [(0, .ref 53), (1, I_ x1), (2, I_ x2)] [I_ xs0] n (W0 dy) g 0 0 P := by
  have c1 := h.1
  have h := h.2
  refine v_i2l 34 rfl c1 ?_
  exact v_ret (v := some (L_ xs0)) 35 rfl (Nat.zero_le _) (Nat.zero_le _) trivial rfl h
set_option maxHeartbeats 8000000 in
set_option maxRecDepth 4000 in
theorem bX12_middle_67 {d n : Nat} {dy : Nat → Shp} {g : Hp} {P : Pst} {x1 : Int} {x2 : Int} {x3 : Int} {x5 : Int} {x7 : Int} (hn : 100 ≤ n) (h : (0 ≤ x1 ∧ x1 < 60) ∧ (i3 x7) ∧ (((g 68 x1.toNat) ≤ x7) → Runs miX12_common d [L_ x5, L_ (3 * x3)] n (W0 dy) g (fun v n' S' g' => V miX12_middle (d + 1) 214 [(0, .ref 53), (1, I_ x1), (2, I_ x2), (3, L_ x3), (5, L_ x5), (7, L_ (3 * x3))] (v.toList ++ []) n' S' g' 0 0 P)) ∧ ((x7 < (g 68 x1.toNat)) → (i3 (x7 + 1)) ∧ (g 68 x1.toNat ≠ 0) ∧ (0 ≤ (8 * x1) + x7 ∧ (8 * x1) + x7 < 480) ∧ (0 ≤ (8 * x1) + ((x7 + 1).tmod (g 68 x1.toNat)) ∧ (8 * x1) + ((x7 + 1).tmod (g 68 x1.toNat)) < 480) ∧ (i3 x2) ∧ ((2 ≤ x2) → V miX12_middle (d + 1) 189 [(0, .ref 53), (1, I_ x1), (2, I_ x2), (3, L_ (x3 + (((g 69 (((8 * x1) + x7).toNat)) * (g 70 (((8 * x1) + ((x7 + 1).tmod (g 68 x1.toNat))).toNat))) - ((g 69 (((8 * x1) + ((x7 + 1).tmod (g 68 x1.toNat))).toNat)) * (g 70 (((8 * x1) + x7).toNat)))))), (5, L_ x5), (7, I_ x7), (8, I_ ((8 * x1) + x7)), (9, I_ ((8 * x1) + ((x7 + 1).tmod (g 68 x1.toNat)))), (10, L_ (((g 69 (((8 * x1) + x7).toNat)) * (g 70 (((8 * x1) + ((x7 + 1).tmod (g 68 x1.toNat))).toNat))) - ((g 69 (((8 * x1) + ((x7 + 1).tmod (g 68 x1.toNat))).toNat)) * (g 70 (((8 * x1) + x7).toNat)))))] [I_ ((g 70 (((8 * x1) + x7).toNat)) + (g 70 (((8 * x1) + ((x7 + 1).tmod (g 68 x1.toNat))).toNat))), L_ (((g 69 (((8 * x1) + x7).toNat)) * (g 70 (((8 * x1) + ((x7 + 1).tmod (g 68 x1.toNat))).toNat))) - ((g 69 (((8 * x1) + ((x7 + 1).tmod (g 68 x1.toNat))).toNat)) * (g 70 (((8 * x1) + x7).toNat)))), L_ x5] n (W0 dy) g 0 0 P) ∧ ((x2 < 2) → V miX12_middle (d + 1) 189 [(0, .ref 53), (1, I_ x1), (2, I_ x2), (3, L_ (x3 + (((g 69 (((8 * x1) + x7).toNat)) * (g 70 (((8 * x1) + ((x7 + 1).tmod (g 68 x1.toNat))).toNat))) - ((g 69 (((8 * x1) + ((x7 + 1).tmod (g 68 x1.toNat))).toNat)) * (g 70 (((8 * x1) + x7).toNat)))))), (5, L_ x5), (7, I_ x7), (8, I_ ((8 * x1) + x7)), (9, I_ ((8 * x1) + ((x7 + 1).tmod (g 68 x1.toNat)))), (10, L_ (((g 69 (((8 * x1) + x7).toNat)) * (g 70 (((8 * x1) + ((x7 + 1).tmod (g 68 x1.toNat))).toNat))) - ((g 69 (((8 * x1) + ((x7 + 1).tmod (g 68 x1.toNat))).toNat)) * (g 70 (((8 * x1) + x7).toNat)))))] [I_ ((g 69 (((8 * x1) + x7).toNat)) + (g 69 (((8 * x1) + ((x7 + 1).tmod (g 68 x1.toNat))).toNat))), L_ (((g 69 (((8 * x1) + x7).toNat)) * (g 70 (((8 * x1) + ((x7 + 1).tmod (g 68 x1.toNat))).toNat))) - ((g 69 (((8 * x1) + ((x7 + 1).tmod (g 68 x1.toNat))).toNat)) * (g 70 (((8 * x1) + x7).toNat)))), L_ x5] n (W0 dy) g 0 0 P))) : V miX12_middle (d + 1) 67 [(0, .ref 53), (1, I_ x1), (2, I_ x2), (3, L_ x3), (5, L_ x5), (7, I_ x7)] [] n (W0 dy) g 0 0 P := by
  refine v_iload 42 5 rfl rfl ?_
  refine v_aload_n 43 0 rfl rfl rfl ?_
  refine v_gK 44 rfl fl12_53_11.r (al 53 rfl hn) (wk53 dy) (by decide) rfl (r := 68) (wc53_17 dy) ?_
  refine v_iload_n 45 1 rfl rfl rfl ?_
  have c1 := h.1
  have h := h.2
  refine v_ia (N := 60) 46 rfl (al 68 rfl hn) (wk68 dy) (wn68 dy) (by decide) c1 (y := g 68 x1.toNat) rfl ?_
  refine v_rng fun w2 => ?_
  have r3 : i3 (g 68 x1.toNat) := rI w2 (q := x1.toNat) (al 68 rfl hn) (wk68 dy) rfl rfl
  have c4 := h.1
  have h := h.2
  refine v_icmp_ge 47 rfl (tgt := 200) rfl c4 r3 (fun q29 => ?_) (fun q29 => ?_)
  · have h := h.1 q29
    refine v_ldc2 (v := 3) 125 rfl (tbG_in (List.mem_append_right _ (List.mem_of_getElem? (i := 1401) (by decide +kernel))) rfl) ?_
    refine v_lload_n 126 3 rfl rfl rfl ?_
    refine v_lmul 127 rfl ?_
    refine v_lstore 128 [1, 2, 3, 4, 5, 0] rfl (by decide) rfl ?_
    refine v_lload 129 4 rfl rfl ?_
    refine v_lload 130 5 rfl rfl ?_
    refine v_callS (st := []) [L_ x5, L_ (3 * x3)] 131 rfl ls12_227_middle rfl (Nat.lt_of_lt_of_le (by decide) hn) (Nat.le_refl _) (Nat.le_refl _) ?_
    exact h
  · have h := h.2 q29
    refine v_bipush 48 rfl (by decide) ?_
    refine v_iload_n 49 1 rfl rfl rfl ?_
    refine v_imul 50 rfl ?_
    refine v_iload 51 5 rfl rfl ?_
    refine v_iadd 52 rfl ?_
    refine v_istore 53 [1, 2, 3, 4, 5, 6, 0] rfl (by decide) rfl ?_
    refine v_bipush 54 rfl (by decide) ?_
    refine v_iload_n 55 1 rfl rfl rfl ?_
    refine v_imul 56 rfl ?_
    refine v_iload 57 5 rfl rfl ?_
    refine v_iconst 58 rfl ?_
    refine v_iadd 59 rfl ?_
    refine v_aload_n 60 0 rfl rfl rfl ?_
    refine v_gK 61 rfl fl12_53_11.r (al 53 rfl hn) (wk53 dy) (by decide) rfl (r := 68) (wc53_17 dy) ?_
    refine v_iload_n 62 1 rfl rfl rfl ?_
    refine v_ia (N := 60) 63 rfl (al 68 rfl hn) (wk68 dy) (wn68 dy) (by decide) c1 (y := g 68 x1.toNat) rfl ?_
    refine v_rng fun w5 => ?_
    have r6 : i3 (g 68 x1.toNat) := rI w5 (q := x1.toNat) (al 68 rfl hn) (wk68 dy) rfl rfl
    have c7 := h.1
    have h := h.2
    have c8 := h.1
    have h := h.2
    refine v_irem 64 rfl c7 r6 c8 ?_
    refine v_iadd 65 rfl ?_
    refine v_istore 66 [1, 2, 3, 4, 5, 6, 7, 0] rfl (by decide) rfl ?_
    refine v_aload_n 67 0 rfl rfl rfl ?_
    refine v_gK 68 rfl fl12_56_11.r (al 53 rfl hn) (wk53 dy) (by decide) rfl (r := 69) (wc53_18 dy) ?_
    refine v_iload 69 6 rfl rfl ?_
    have c9 := h.1
    have h := h.2
    refine v_ia (N := 480) 70 rfl (al 69 rfl hn) (wk69 dy) (wn69 dy) (by decide) c9 (y := g 69 (((8 * x1) + x7).toNat)) rfl ?_
    refine v_rng fun w10 => ?_
    have r11 : i3 (g 69 (((8 * x1) + x7).toNat)) := rI w10 (q := (((8 * x1) + x7).toNat)) (al 69 rfl hn) (wk69 dy) rfl rfl
    refine v_i2l 71 rfl r11 ?_
    refine v_aload_n 72 0 rfl rfl rfl ?_
    refine v_gK 73 rfl fl12_59_11.r (al 53 rfl hn) (wk53 dy) (by decide) rfl (r := 70) (wc53_19 dy) ?_
    refine v_iload 74 7 rfl rfl ?_
    have c12 := h.1
    have h := h.2
    refine v_ia (N := 480) 75 rfl (al 70 rfl hn) (wk70 dy) (wn70 dy) (by decide) c12 (y := g 70 (((8 * x1) + ((x7 + 1).tmod (g 68 x1.toNat))).toNat)) rfl ?_
    refine v_rng fun w13 => ?_
    have r14 : i3 (g 70 (((8 * x1) + ((x7 + 1).tmod (g 68 x1.toNat))).toNat)) := rI w13 (q := (((8 * x1) + ((x7 + 1).tmod (g 68 x1.toNat))).toNat)) (al 70 rfl hn) (wk70 dy) rfl rfl
    refine v_i2l 76 rfl r14 ?_
    refine v_lmul 77 rfl ?_
    refine v_aload_n 78 0 rfl rfl rfl ?_
    refine v_gK 79 rfl fl12_56_11.r (al 53 rfl hn) (wk53 dy) (by decide) rfl (r := 69) (wc53_18 dy) ?_
    refine v_iload 80 7 rfl rfl ?_
    refine v_ia (N := 480) 81 rfl (al 69 rfl hn) (wk69 dy) (wn69 dy) (by decide) c12 (y := g 69 (((8 * x1) + ((x7 + 1).tmod (g 68 x1.toNat))).toNat)) rfl ?_
    refine v_rng fun w15 => ?_
    have r16 : i3 (g 69 (((8 * x1) + ((x7 + 1).tmod (g 68 x1.toNat))).toNat)) := rI w15 (q := (((8 * x1) + ((x7 + 1).tmod (g 68 x1.toNat))).toNat)) (al 69 rfl hn) (wk69 dy) rfl rfl
    refine v_i2l 82 rfl r16 ?_
    refine v_aload_n 83 0 rfl rfl rfl ?_
    refine v_gK 84 rfl fl12_59_11.r (al 53 rfl hn) (wk53 dy) (by decide) rfl (r := 70) (wc53_19 dy) ?_
    refine v_iload 85 6 rfl rfl ?_
    refine v_ia (N := 480) 86 rfl (al 70 rfl hn) (wk70 dy) (wn70 dy) (by decide) c9 (y := g 70 (((8 * x1) + x7).toNat)) rfl ?_
    refine v_rng fun w17 => ?_
    have r18 : i3 (g 70 (((8 * x1) + x7).toNat)) := rI w17 (q := (((8 * x1) + x7).toNat)) (al 70 rfl hn) (wk70 dy) rfl rfl
    refine v_i2l 87 rfl r18 ?_
    refine v_lmul 88 rfl ?_
    refine v_lsub 89 rfl ?_
    refine v_lstore 90 [1, 2, 3, 4, 5, 6, 7, 8, 0] rfl (by decide) rfl ?_
    refine v_lload_n 91 3 rfl rfl rfl ?_
    refine v_lload 92 8 rfl rfl ?_
    refine v_ladd 93 rfl ?_
    refine v_lstore_n 94 [1, 2, 3, 0, 4, 5, 6, 7, 8] rfl rfl (by decide) rfl ?_
    refine v_lload 95 4 rfl rfl ?_
    refine v_lload 96 8 rfl rfl ?_
    refine v_iload_n 97 2 rfl rfl rfl ?_
    refine v_iconst 98 rfl ?_
    have c19 := h.1
    have h := h.2
    refine v_icmp_ge 99 rfl (tgt := 174) rfl c19 (by decide) (fun q28 => ?_) (fun q28 => ?_)
    · have h := h.1 q28
      refine v_aload_n 110 0 rfl rfl rfl ?_
      refine v_gK 111 rfl fl12_59_11.r (al 53 rfl hn) (wk53 dy) (by decide) rfl (r := 70) (wc53_19 dy) ?_
      refine v_iload 112 6 rfl rfl ?_
      refine v_ia (N := 480) 113 rfl (al 70 rfl hn) (wk70 dy) (wn70 dy) (by decide) c9 (y := g 70 (((8 * x1) + x7).toNat)) rfl ?_
      refine v_rng fun w20 => ?_
      have r21 : i3 (g 70 (((8 * x1) + x7).toNat)) := rI w20 (q := (((8 * x1) + x7).toNat)) (al 70 rfl hn) (wk70 dy) rfl rfl
      refine v_aload_n 114 0 rfl rfl rfl ?_
      refine v_gK 115 rfl fl12_59_11.r (al 53 rfl hn) (wk53 dy) (by decide) rfl (r := 70) (wc53_19 dy) ?_
      refine v_iload 116 7 rfl rfl ?_
      refine v_ia (N := 480) 117 rfl (al 70 rfl hn) (wk70 dy) (wn70 dy) (by decide) c12 (y := g 70 (((8 * x1) + ((x7 + 1).tmod (g 68 x1.toNat))).toNat)) rfl ?_
      refine v_rng fun w22 => ?_
      have r23 : i3 (g 70 (((8 * x1) + ((x7 + 1).tmod (g 68 x1.toNat))).toNat)) := rI w22 (q := (((8 * x1) + ((x7 + 1).tmod (g 68 x1.toNat))).toNat)) (al 70 rfl hn) (wk70 dy) rfl rfl
      refine v_iadd 118 rfl ?_
      exact h
    · have h := h.2 q28
      refine v_aload_n 100 0 rfl rfl rfl ?_
      refine v_gK 101 rfl fl12_56_11.r (al 53 rfl hn) (wk53 dy) (by decide) rfl (r := 69) (wc53_18 dy) ?_
      refine v_iload 102 6 rfl rfl ?_
      refine v_ia (N := 480) 103 rfl (al 69 rfl hn) (wk69 dy) (wn69 dy) (by decide) c9 (y := g 69 (((8 * x1) + x7).toNat)) rfl ?_
      refine v_rng fun w24 => ?_
      have r25 : i3 (g 69 (((8 * x1) + x7).toNat)) := rI w24 (q := (((8 * x1) + x7).toNat)) (al 69 rfl hn) (wk69 dy) rfl rfl
      refine v_aload_n 104 0 rfl rfl rfl ?_
      refine v_gK 105 rfl fl12_56_11.r (al 53 rfl hn) (wk53 dy) (by decide) rfl (r := 69) (wc53_18 dy) ?_
      refine v_iload 106 7 rfl rfl ?_
      refine v_ia (N := 480) 107 rfl (al 69 rfl hn) (wk69 dy) (wn69 dy) (by decide) c12 (y := g 69 (((8 * x1) + ((x7 + 1).tmod (g 68 x1.toNat))).toNat)) rfl ?_
      refine v_rng fun w26 => ?_
      have r27 : i3 (g 69 (((8 * x1) + ((x7 + 1).tmod (g 68 x1.toNat))).toNat)) := rI w26 (q := (((8 * x1) + ((x7 + 1).tmod (g 68 x1.toNat))).toNat)) (al 69 rfl hn) (wk69 dy) rfl rfl
      refine v_iadd 108 rfl ?_
      refine v_goto 109 rfl (tgt := 189) rfl ?_
      exact h
set_option maxHeartbeats 8000000 in
set_option maxRecDepth 4000 in
theorem bX12_middle_189 {d n : Nat} {dy : Nat → Shp} {g : Hp} {P : Pst} {x1 : Int} {x2 : Int} {x3 : Int} {x5 : Int} {x7 : Int} {x8 : Int} {x9 : Int} {x10 : Int} {xs0 : Int} {xs1 : Int} {xs2 : Int} (hn : 100 ≤ n) (h : (i3 xs2) ∧ V miX12_middle (d + 1) 67 [(0, .ref 53), (1, I_ x1), (2, I_ x2), (3, L_ x3), (5, L_ (xs0 + (xs1 * xs2))), (7, I_ (x7 + 1))] [] n (W0 dy) g 0 0 P) : V miX12_middle (d + 1) 189 [(0, .ref 53), (1, I_ x1), (2, I_ x2), (3, L_ x3), (5, L_ x5), (7, I_ x7), (8, I_ x8), (9, I_ x9), (10, L_ x10)] [I_ xs2, L_ xs1, L_ xs0] n (W0 dy) g 0 0 P := by
  have c1 := h.1
  have h := h.2
  refine v_i2l 119 rfl c1 ?_
  refine v_lmul 120 rfl ?_
  refine v_ladd 121 rfl ?_
  refine v_lstore 122 [1, 2, 3, 4, 0, 5, 6, 7, 8] rfl (by decide) rfl ?_
  refine v_iinc 123 5 [1, 2, 3, 4, 5, 0, 6, 7, 8] rfl rfl (by decide) rfl ?_
  refine v_goto 124 rfl (tgt := 67) rfl ?_
  refine v_loc [0, 1, 2, 3, 4, 5] rfl ?_
  exact h
set_option maxHeartbeats 8000000 in
set_option maxRecDepth 4000 in
theorem bX12_middle_214 {d n : Nat} {dy : Nat → Shp} {g : Hp} {P : Pst} {x1 : Int} {x2 : Int} {x3 : Int} {x5 : Int} {x7 : Int} {xs0 : Int} (hn : 100 ≤ n) (h : (i6 x7) ∧ ((0 ≤ x7) → V miX12_middle (d + 1) 228 [(0, .ref 53), (1, I_ x1), (2, I_ x2), (3, L_ x3), (5, L_ x5), (7, L_ x7)] [L_ 1, L_ xs0] n (W0 dy) g 0 0 P) ∧ ((x7 < 0) → V miX12_middle (d + 1) 228 [(0, .ref 53), (1, I_ x1), (2, I_ x2), (3, L_ x3), (5, L_ x5), (7, L_ x7)] [L_ ((-1)), L_ xs0] n (W0 dy) g 0 0 P)) : V miX12_middle (d + 1) 214 [(0, .ref 53), (1, I_ x1), (2, I_ x2), (3, L_ x3), (5, L_ x5), (7, L_ x7)] [L_ xs0] n (W0 dy) g 0 0 P := by
  refine v_lload 132 5 rfl rfl ?_
  refine v_lconst (v := 0) 133 rfl (by decide) ?_
  have c1 := h.1
  have h := h.2
  refine v_lif_ge 134 rfl rfl (tgt := 227) rfl c1 (by decide) (fun q2 => ?_) (fun q2 => ?_)
  · have h := h.1 q2
    refine v_lconst (v := 1) 138 rfl (by decide) ?_
    exact h
  · have h := h.2 q2
    refine v_ldc2 (v := (-1)) 136 rfl (tbG_in (List.mem_append_right _ (List.mem_of_getElem? (i := 1334) (by decide +kernel))) rfl) ?_
    refine v_goto 137 rfl (tgt := 228) rfl ?_
    exact h
set_option maxHeartbeats 8000000 in
set_option maxRecDepth 4000 in
theorem bX12_middle_228 {d n : Nat} {dy : Nat → Shp} {g : Hp} {P : Pst} {x1 : Int} {x2 : Int} {x3 : Int} {x5 : Int} {x7 : Int} {xs0 : Int} {xs1 : Int} (hn : 100 ≤ n) (h : (i3 x2) ∧ (i3 (x2.tmod 2)) ∧ (((x2.tmod 2) ≠ 0) → (i6 x7) ∧ (i6 (xs0 * xs1)) ∧ (xs0 * xs1 ≠ 0) ∧ V miX12_middle (d + 1) 250 [(0, .ref 53), (1, I_ x1), (2, I_ x2), (3, L_ x3), (5, L_ x5), (7, L_ x7), (9, L_ (xs0 * xs1))] [L_ (x7.tdiv (xs0 * xs1))] n (W0 dy) g 0 0 P) ∧ (((x2.tmod 2) = 0) → (i6 x5) ∧ (i6 (xs0 * xs1)) ∧ (xs0 * xs1 ≠ 0) ∧ V miX12_middle (d + 1) 250 [(0, .ref 53), (1, I_ x1), (2, I_ x2), (3, L_ x3), (5, L_ x5), (7, L_ x7), (9, L_ (xs0 * xs1))] [L_ (x5.tdiv (xs0 * xs1))] n (W0 dy) g 0 0 P)) : V miX12_middle (d + 1) 228 [(0, .ref 53), (1, I_ x1), (2, I_ x2), (3, L_ x3), (5, L_ x5), (7, L_ x7)] [L_ xs1, L_ xs0] n (W0 dy) g 0 0 P := by
  refine v_lmul 139 rfl ?_
  refine v_lstore 140 [1, 2, 3, 4, 5, 6, 0] rfl (by decide) rfl ?_
  refine v_iload_n 141 2 rfl rfl rfl ?_
  refine v_iconst 142 rfl ?_
  have c1 := h.1
  have h := h.2
  refine v_irem 143 rfl c1 (by decide) (by decide) ?_
  have c2 := h.1
  have h := h.2
  refine v_if_ne 144 rfl (tgt := 245) rfl c2 (fun q9 => ?_) (fun q9 => ?_)
  · have h := h.1 q9
    refine v_lload 149 5 rfl rfl ?_
    refine v_lload 150 6 rfl rfl ?_
    have c3 := h.1
    have h := h.2
    have c4 := h.1
    have h := h.2
    have c5 := h.1
    have h := h.2
    refine v_ldiv 151 rfl c3 c4 c5 ?_
    exact h
  · have h := h.2 q9
    refine v_lload 145 4 rfl rfl ?_
    refine v_lload 146 6 rfl rfl ?_
    have c6 := h.1
    have h := h.2
    have c7 := h.1
    have h := h.2
    have c8 := h.1
    have h := h.2
    refine v_ldiv 147 rfl c6 c7 c8 ?_
    refine v_goto 148 rfl (tgt := 250) rfl ?_
    exact h
set_option maxHeartbeats 8000000 in
set_option maxRecDepth 4000 in
theorem bX12_middle_250 {d n : Nat} {dy : Nat → Shp} {g : Hp} {P : Pst} {x1 : Int} {x2 : Int} {x3 : Int} {x5 : Int} {x7 : Int} {x9 : Int} {xs0 : Int} (hn : 100 ≤ n) (h : P (some (L_ xs0)) n (W0 dy) g) : V miX12_middle (d + 1) 250 [(0, .ref 53), (1, I_ x1), (2, I_ x2), (3, L_ x3), (5, L_ x5), (7, L_ x7), (9, L_ x9)] [L_ xs0] n (W0 dy) g 0 0 P := by
  exact v_ret (v := some (L_ xs0)) 152 rfl (Nat.zero_le _) (Nat.zero_le _) trivial rfl h
set_option maxHeartbeats 8000000 in
set_option maxRecDepth 4000 in
theorem bX12_isPart_0 {d n : Nat} {dy : Nat → Shp} {g : Hp} {P : Pst} {x1 : Int} (hn : 100 ≤ n) (h : (i3 x1) ∧ ((x1 < 0) → V miX12_isPart d 16 [(0, .ref 53), (1, I_ x1)] [] n (W0 dy) g 0 0 P) ∧ ((0 ≤ x1) → (((g 53 5) ≤ x1) → V miX12_isPart d 16 [(0, .ref 53), (1, I_ x1)] [] n (W0 dy) g 0 0 P) ∧ ((x1 < (g 53 5)) → V miX12_isPart d 17 [(0, .ref 53), (1, I_ x1)] [I_ 1] n (W0 dy) g 0 0 P))) : V miX12_isPart d 0 [(0, .ref 53), (1, I_ x1)] [] n (W0 dy) g 0 0 P := by
  refine v_iload_n 0 1 rfl rfl rfl ?_
  have c1 := h.1
  have h := h.2
  refine v_if_lt 1 rfl (tgt := 16) rfl c1 (fun q5 => ?_) (fun q5 => ?_)
  · have h := h.1 q5
    exact h
  · have h := h.2 q5
    refine v_iload_n 2 1 rfl rfl rfl ?_
    refine v_aload_n 3 0 rfl rfl rfl ?_
    refine v_gI 4 rfl fl12_169_11.r (al 53 rfl hn) (wk53 dy) (by decide) rfl (wc53_5 dy) (x := g 53 5) rfl ?_
    refine v_rng fun w2 => ?_
    have r3 : i3 (g 53 5) := rI w2 (q := 5) (al 53 rfl hn) (wk53 dy) rfl rfl
    refine v_icmp_ge 5 rfl (tgt := 16) rfl c1 r3 (fun q4 => ?_) (fun q4 => ?_)
    · have h := h.1 q4
      exact h
    · have h := h.2 q4
      refine v_iconst 6 rfl ?_
      refine v_goto 7 rfl (tgt := 17) rfl ?_
      exact h
set_option maxHeartbeats 8000000 in
set_option maxRecDepth 4000 in
theorem bX12_isPart_16 {d n : Nat} {dy : Nat → Shp} {g : Hp} {P : Pst} {x1 : Int} (hn : 100 ≤ n) (h : V miX12_isPart d 17 [(0, .ref 53), (1, I_ x1)] [I_ 0] n (W0 dy) g 0 0 P) : V miX12_isPart d 16 [(0, .ref 53), (1, I_ x1)] [] n (W0 dy) g 0 0 P := by
  refine v_iconst 8 rfl ?_
  exact h
set_option maxHeartbeats 8000000 in
set_option maxRecDepth 4000 in
theorem bX12_isPart_17 {d n : Nat} {dy : Nat → Shp} {g : Hp} {P : Pst} {x1 : Int} {xs0 : Int} (hn : 100 ≤ n) (h : (xs0 = 0 ∨ xs0 = 1) ∧ P (some (I_ xs0)) n (W0 dy) g) : V miX12_isPart d 17 [(0, .ref 53), (1, I_ x1)] [I_ xs0] n (W0 dy) g 0 0 P := by
  have c1 := h.1
  have h := h.2
  exact v_ret (v := some (I_ xs0)) 9 rfl (Nat.zero_le _) (Nat.zero_le _) (rokZ c1) rfl h
set_option maxHeartbeats 8000000 in
set_option maxRecDepth 4000 in
theorem bX12_isRod_0 {d n : Nat} {dy : Nat → Shp} {g : Hp} {P : Pst} {x1 : Int} (hn : 100 ≤ n) (h : (0 ≤ x1 ∧ x1 < 60) ∧ (((g 57 x1.toNat) = 2) → V miX12_isRod d 20 [(0, .ref 53), (1, I_ x1)] [] n (W0 dy) g 0 0 P) ∧ (((g 57 x1.toNat) ≠ 2) → (((g 57 x1.toNat) ≠ 3) → V miX12_isRod d 25 [(0, .ref 53), (1, I_ x1)] [I_ 0] n (W0 dy) g 0 0 P) ∧ (((g 57 x1.toNat) = 3) → V miX12_isRod d 20 [(0, .ref 53), (1, I_ x1)] [] n (W0 dy) g 0 0 P))) : V miX12_isRod d 0 [(0, .ref 53), (1, I_ x1)] [] n (W0 dy) g 0 0 P := by
  refine v_aload_n 0 0 rfl rfl rfl ?_
  refine v_gK 1 rfl fl12_20_11.r (al 53 rfl hn) (wk53 dy) (by decide) rfl (r := 57) (wc53_6 dy) ?_
  refine v_iload_n 2 1 rfl rfl rfl ?_
  have c1 := h.1
  have h := h.2
  refine v_ia (N := 60) 3 rfl (al 57 rfl hn) (wk57 dy) (wn57 dy) (by decide) c1 (y := g 57 x1.toNat) rfl ?_
  refine v_rng fun w2 => ?_
  have r3 : i3 (g 57 x1.toNat) := rI w2 (q := x1.toNat) (al 57 rfl hn) (wk57 dy) rfl rfl
  refine v_iconst 4 rfl ?_
  refine v_icmp_eq 5 rfl (tgt := 20) rfl r3 (by decide) (fun q7 => ?_) (fun q7 => ?_)
  · have h := h.1 q7
    exact h
  · have h := h.2 q7
    refine v_aload_n 6 0 rfl rfl rfl ?_
    refine v_gK 7 rfl fl12_20_11.r (al 53 rfl hn) (wk53 dy) (by decide) rfl (r := 57) (wc53_6 dy) ?_
    refine v_iload_n 8 1 rfl rfl rfl ?_
    refine v_ia (N := 60) 9 rfl (al 57 rfl hn) (wk57 dy) (wn57 dy) (by decide) c1 (y := g 57 x1.toNat) rfl ?_
    refine v_rng fun w4 => ?_
    have r5 : i3 (g 57 x1.toNat) := rI w4 (q := x1.toNat) (al 57 rfl hn) (wk57 dy) rfl rfl
    refine v_iconst 10 rfl ?_
    refine v_icmp_ne 11 rfl (tgt := 24) rfl r5 (by decide) (fun q6 => ?_) (fun q6 => ?_)
    · have h := h.1 q6
      refine v_iconst 14 rfl ?_
      exact h
    · have h := h.2 q6
      exact h
set_option maxHeartbeats 8000000 in
set_option maxRecDepth 4000 in
theorem bX12_isRod_20 {d n : Nat} {dy : Nat → Shp} {g : Hp} {P : Pst} {x1 : Int} (hn : 100 ≤ n) (h : V miX12_isRod d 25 [(0, .ref 53), (1, I_ x1)] [I_ 1] n (W0 dy) g 0 0 P) : V miX12_isRod d 20 [(0, .ref 53), (1, I_ x1)] [] n (W0 dy) g 0 0 P := by
  refine v_iconst 12 rfl ?_
  refine v_goto 13 rfl (tgt := 25) rfl ?_
  exact h
set_option maxHeartbeats 8000000 in
set_option maxRecDepth 4000 in
theorem bX12_isRod_25 {d n : Nat} {dy : Nat → Shp} {g : Hp} {P : Pst} {x1 : Int} {xs0 : Int} (hn : 100 ≤ n) (h : (xs0 = 0 ∨ xs0 = 1) ∧ P (some (I_ xs0)) n (W0 dy) g) : V miX12_isRod d 25 [(0, .ref 53), (1, I_ x1)] [I_ xs0] n (W0 dy) g 0 0 P := by
  have c1 := h.1
  have h := h.2
  exact v_ret (v := some (I_ xs0)) 15 rfl (Nat.zero_le _) (Nat.zero_le _) (rokZ c1) rfl h
set_option maxHeartbeats 8000000 in
set_option maxRecDepth 4000 in
theorem bX12_topOf_0 {d n : Nat} {dy : Nat → Shp} {g : Hp} {P : Pst} {x1 : Int} (hn : 100 ≤ n) (h : V miX12_topOf d 2 [(0, .ref 53), (1, I_ x1), (2, I_ x1)] [] n (W0 dy) g 0 0 P) : V miX12_topOf d 0 [(0, .ref 53), (1, I_ x1)] [] n (W0 dy) g 0 0 P := by
  refine v_iload_n 0 1 rfl rfl rfl ?_
  refine v_istore_n 1 [1, 2, 0] rfl rfl (by decide) rfl ?_
  exact h
set_option maxHeartbeats 8000000 in
set_option maxRecDepth 4000 in
theorem bX12_topOf_2 {d n : Nat} {dy : Nat → Shp} {g : Hp} {P : Pst} {x1 : Int} {x2 : Int} (hn : 100 ≤ n) (h : (0 ≤ x2 ∧ x2 < 60) ∧ (((g 60 x2.toNat) < 0) → P (some (I_ x2)) n (W0 dy) g) ∧ ((0 ≤ (g 60 x2.toNat)) → V miX12_topOf d 2 [(0, .ref 53), (1, I_ x1), (2, I_ (g 60 x2.toNat))] [] n (W0 dy) g 0 0 P)) : V miX12_topOf d 2 [(0, .ref 53), (1, I_ x1), (2, I_ x2)] [] n (W0 dy) g 0 0 P := by
  refine v_aload_n 2 0 rfl rfl rfl ?_
  refine v_gK 3 rfl fl12_29_11.r (al 53 rfl hn) (wk53 dy) (by decide) rfl (r := 60) (wc53_9 dy) ?_
  refine v_iload_n 4 2 rfl rfl rfl ?_
  have c1 := h.1
  have h := h.2
  refine v_ia (N := 60) 5 rfl (al 60 rfl hn) (wk60 dy) (wn60 dy) (by decide) c1 (y := g 60 x2.toNat) rfl ?_
  refine v_rng fun w2 => ?_
  have r3 : i3 (g 60 x2.toNat) := rI w2 (q := x2.toNat) (al 60 rfl hn) (wk60 dy) rfl rfl
  refine v_if_lt 6 rfl (tgt := 21) rfl r3 (fun q6 => ?_) (fun q6 => ?_)
  · have h := h.1 q6
    refine v_iload_n 13 2 rfl rfl rfl ?_
    exact v_ret (v := some (I_ x2)) 14 rfl (Nat.zero_le _) (Nat.zero_le _) trivial rfl h
  · have h := h.2 q6
    refine v_aload_n 7 0 rfl rfl rfl ?_
    refine v_gK 8 rfl fl12_29_11.r (al 53 rfl hn) (wk53 dy) (by decide) rfl (r := 60) (wc53_9 dy) ?_
    refine v_iload_n 9 2 rfl rfl rfl ?_
    refine v_ia (N := 60) 10 rfl (al 60 rfl hn) (wk60 dy) (wn60 dy) (by decide) c1 (y := g 60 x2.toNat) rfl ?_
    refine v_rng fun w4 => ?_
    have r5 : i3 (g 60 x2.toNat) := rI w4 (q := x2.toNat) (al 60 rfl hn) (wk60 dy) rfl rfl
    refine v_istore_n 11 [1, 2, 0] rfl rfl (by decide) rfl ?_
    refine v_goto 12 rfl (tgt := 2) rfl ?_
    exact h
set_option maxHeartbeats 8000000 in
set_option maxRecDepth 4000 in
theorem bX12_heightOf_0 {d n : Nat} {dy : Nat → Shp} {g : Hp} {P : Pst} {x1 : Int} (hn : 100 ≤ n) (h : V miX12_heightOf d 4 [(0, .ref 53), (1, I_ x1), (2, I_ 0), (3, I_ x1)] [] n (W0 dy) g 0 0 P) : V miX12_heightOf d 0 [(0, .ref 53), (1, I_ x1)] [] n (W0 dy) g 0 0 P := by
  refine v_iconst 0 rfl ?_
  refine v_istore_n 1 [1, 2, 0] rfl rfl (by decide) rfl ?_
  refine v_iload_n 2 1 rfl rfl rfl ?_
  refine v_istore_n 3 [1, 2, 3, 0] rfl rfl (by decide) rfl ?_
  exact h
set_option maxHeartbeats 8000000 in
set_option maxRecDepth 4000 in
theorem bX12_heightOf_4 {d n : Nat} {dy : Nat → Shp} {g : Hp} {P : Pst} {x1 : Int} {x2 : Int} {x3 : Int} (hn : 100 ≤ n) (h : (0 ≤ x3 ∧ x3 < 60) ∧ (((g 60 x3.toNat) < 0) → P (some (I_ x2)) n (W0 dy) g) ∧ ((0 ≤ (g 60 x3.toNat)) → V miX12_heightOf d 4 [(0, .ref 53), (1, I_ x1), (2, I_ (x2 + (g 62 x3.toNat))), (3, I_ (g 60 x3.toNat))] [] n (W0 dy) g 0 0 P)) : V miX12_heightOf d 4 [(0, .ref 53), (1, I_ x1), (2, I_ x2), (3, I_ x3)] [] n (W0 dy) g 0 0 P := by
  refine v_aload_n 4 0 rfl rfl rfl ?_
  refine v_gK 5 rfl fl12_29_11.r (al 53 rfl hn) (wk53 dy) (by decide) rfl (r := 60) (wc53_9 dy) ?_
  refine v_iload_n 6 3 rfl rfl rfl ?_
  have c1 := h.1
  have h := h.2
  refine v_ia (N := 60) 7 rfl (al 60 rfl hn) (wk60 dy) (wn60 dy) (by decide) c1 (y := g 60 x3.toNat) rfl ?_
  refine v_rng fun w2 => ?_
  have r3 : i3 (g 60 x3.toNat) := rI w2 (q := x3.toNat) (al 60 rfl hn) (wk60 dy) rfl rfl
  refine v_if_lt 8 rfl (tgt := 32) rfl r3 (fun q8 => ?_) (fun q8 => ?_)
  · have h := h.1 q8
    refine v_iload_n 22 2 rfl rfl rfl ?_
    exact v_ret (v := some (I_ x2)) 23 rfl (Nat.zero_le _) (Nat.zero_le _) trivial rfl h
  · have h := h.2 q8
    refine v_iload_n 9 2 rfl rfl rfl ?_
    refine v_aload_n 10 0 rfl rfl rfl ?_
    refine v_gK 11 rfl fl12_35_11.r (al 53 rfl hn) (wk53 dy) (by decide) rfl (r := 62) (wc53_11 dy) ?_
    refine v_iload_n 12 3 rfl rfl rfl ?_
    refine v_ia (N := 60) 13 rfl (al 62 rfl hn) (wk62 dy) (wn62 dy) (by decide) c1 (y := g 62 x3.toNat) rfl ?_
    refine v_rng fun w4 => ?_
    have r5 : i3 (g 62 x3.toNat) := rI w4 (q := x3.toNat) (al 62 rfl hn) (wk62 dy) rfl rfl
    refine v_iadd 14 rfl ?_
    refine v_istore_n 15 [1, 2, 0, 3] rfl rfl (by decide) rfl ?_
    refine v_aload_n 16 0 rfl rfl rfl ?_
    refine v_gK 17 rfl fl12_29_11.r (al 53 rfl hn) (wk53 dy) (by decide) rfl (r := 60) (wc53_9 dy) ?_
    refine v_iload_n 18 3 rfl rfl rfl ?_
    refine v_ia (N := 60) 19 rfl (al 60 rfl hn) (wk60 dy) (wn60 dy) (by decide) c1 (y := g 60 x3.toNat) rfl ?_
    refine v_rng fun w6 => ?_
    have r7 : i3 (g 60 x3.toNat) := rI w6 (q := x3.toNat) (al 60 rfl hn) (wk60 dy) rfl rfl
    refine v_istore_n 20 [1, 2, 3, 0] rfl rfl (by decide) rfl ?_
    refine v_goto 21 rfl (tgt := 4) rfl ?_
    exact h
theorem lv12_222_part_11 : LkV miX12_part miX12_isPart 222 1 11 := ⟨⟨⟨tbG_in (List.mem_append_right _ (List.mem_of_getElem? (i := 1400) (by decide +kernel))) rfl, tbG_in (List.mem_append_right _ (List.mem_of_getElem? (i := 9) (by decide +kernel))) rfl, tbG_in (List.mem_append_right _ (List.mem_of_getElem? (i := 1397) (by decide +kernel))) rfl⟩, ⟨by decide +kernel, by decide +kernel, by decide +kernel⟩, by decide⟩, tbG_in (List.mem_append_right _ (List.mem_of_getElem? (i := 1399) (by decide +kernel))) rfl, RX12, TX12, 58, rfl, tbG_in (List.mem_append_left _ (List.mem_of_getElem? (i := 56) (by decide +kernel))) rfl⟩
theorem lv12_174_part_11 : LkV miX12_part miX12_refuse 174 1 11 := ⟨⟨⟨tbG_in (List.mem_append_right _ (List.mem_of_getElem? (i := 1351) (by decide +kernel))) rfl, tbG_in (List.mem_append_right _ (List.mem_of_getElem? (i := 9) (by decide +kernel))) rfl, tbG_in (List.mem_append_right _ (List.mem_of_getElem? (i := 1348) (by decide +kernel))) rfl⟩, ⟨by decide +kernel, by decide +kernel, by decide +kernel⟩, by decide⟩, tbG_in (List.mem_append_right _ (List.mem_of_getElem? (i := 1350) (by decide +kernel))) rfl, RX12, TX12, 58, rfl, tbG_in (List.mem_append_left _ (List.mem_of_getElem? (i := 50) (by decide +kernel))) rfl⟩
theorem lv12_231_part_11 : LkV miX12_part miX12_heightOf 231 1 11 := ⟨⟨⟨tbG_in (List.mem_append_right _ (List.mem_of_getElem? (i := 1412) (by decide +kernel))) rfl, tbG_in (List.mem_append_right _ (List.mem_of_getElem? (i := 9) (by decide +kernel))) rfl, tbG_in (List.mem_append_right _ (List.mem_of_getElem? (i := 1409) (by decide +kernel))) rfl⟩, ⟨by decide +kernel, by decide +kernel, by decide +kernel⟩, by decide⟩, tbG_in (List.mem_append_right _ (List.mem_of_getElem? (i := 1411) (by decide +kernel))) rfl, RX12, TX12, 58, rfl, tbG_in (List.mem_append_left _ (List.mem_of_getElem? (i := 57) (by decide +kernel))) rfl⟩
theorem lv12_234_part_11 : LkV miX12_part miX12_topOf 234 1 11 := ⟨⟨⟨tbG_in (List.mem_append_right _ (List.mem_of_getElem? (i := 1416) (by decide +kernel))) rfl, tbG_in (List.mem_append_right _ (List.mem_of_getElem? (i := 9) (by decide +kernel))) rfl, tbG_in (List.mem_append_right _ (List.mem_of_getElem? (i := 1413) (by decide +kernel))) rfl⟩, ⟨by decide +kernel, by decide +kernel, by decide +kernel⟩, by decide⟩, tbG_in (List.mem_append_right _ (List.mem_of_getElem? (i := 1415) (by decide +kernel))) rfl, RX12, TX12, 58, rfl, tbG_in (List.mem_append_left _ (List.mem_of_getElem? (i := 58) (by decide +kernel))) rfl⟩
set_option maxHeartbeats 8000000 in
set_option maxRecDepth 4000 in
theorem bX12_part_0 {d n : Nat} {dy : Nat → Shp} {g : Hp} {P : Pst} {x1 : Int} {x2 : Int} (hn : 100 ≤ n) (h : Runs miX12_isPart d [.ref 53, I_ x1] n (W0 dy) (up2 (up2 g 53 1 0) 53 0 0) (fun v n' S' g' => V miX12_part (d + 1) 15 [(0, .ref 53), (1, I_ x1), (2, I_ x2)] (v.toList ++ []) n' S' g' 0 0 P)) : V miX12_part (d + 1) 0 [(0, .ref 53), (1, I_ x1), (2, I_ x2)] [] n (W0 dy) g 0 0 P := by
  refine v_aload_n 0 0 rfl rfl rfl ?_
  refine v_iconst 1 rfl ?_
  refine v_putI 2 rfl fl12_148_11 (al 53 rfl hn) (wk53 dy) (by decide) rfl (wc53_1 dy) (by decide) ?_
  refine v_aload_n 3 0 rfl rfl rfl ?_
  refine v_iconst 4 rfl ?_
  refine v_putI 5 rfl fl12_152_11 (al 53 rfl hn) (wk53 dy) (by decide) rfl (wc53_0 dy) (by decide) ?_
  refine v_aload_n 6 0 rfl rfl rfl ?_
  refine v_iload_n 7 1 rfl rfl rfl ?_
  refine v_callV (st := []) [I_ x1] 8 rfl lv12_222_part_11 (al 53 rfl hn) (wk53 dy) (by decide) rfl (Nat.le_refl _) (Nat.le_refl _) ?_
  exact h
set_option maxHeartbeats 8000000 in
set_option maxRecDepth 4000 in
theorem bX12_part_15 {d n : Nat} {dy : Nat → Shp} {g : Hp} {P : Pst} {x1 : Int} {x2 : Int} {xs0 : Int} (hn : 100 ≤ n) (h : (i3 xs0) ∧ ((xs0 ≠ 0) → (i3 x2) ∧ ((x2 < 0 ∨ 6 < x2) → Runs miX12_refuse d [.ref 53, I_ 7] n (W0 dy) g (fun v n' S' g' => V miX12_part (d + 1) 122 [(0, .ref 53), (1, I_ x1), (2, I_ x2)] (v.toList ++ []) n' S' g' 0 0 P)) ∧ (x2 = 0 → (0 ≤ x1 ∧ x1 < 60) ∧ P (some (I_ (g 57 x1.toNat))) n (W0 dy) g) ∧ (x2 = 1 → (0 ≤ x1 ∧ x1 < 60) ∧ P (some (I_ (g 63 x1.toNat))) n (W0 dy) g) ∧ (x2 = 2 → (0 ≤ x1 ∧ x1 < 60) ∧ P (some (I_ (g 60 x1.toNat))) n (W0 dy) g) ∧ (x2 = 3 → (0 ≤ x1 ∧ x1 < 60) ∧ P (some (I_ (g 61 x1.toNat))) n (W0 dy) g) ∧ (x2 = 4 → (0 ≤ x1 ∧ x1 < 60) ∧ P (some (I_ (g 62 x1.toNat))) n (W0 dy) g) ∧ (x2 = 5 → Runs miX12_heightOf d [.ref 53, I_ x1] n (W0 dy) g (fun v n' S' g' => V miX12_part (d + 1) 109 [(0, .ref 53), (1, I_ x1), (2, I_ x2)] (v.toList ++ []) n' S' g' 0 0 P)) ∧ (x2 = 6 → Runs miX12_topOf d [.ref 53, I_ x1] n (W0 dy) g (fun v n' S' g' => V miX12_part (d + 1) 115 [(0, .ref 53), (1, I_ x1), (2, I_ x2)] (v.toList ++ []) n' S' g' 0 0 P))) ∧ ((xs0 = 0) → Runs miX12_refuse d [.ref 53, I_ 2] n (W0 dy) g (fun v n' S' g' => V miX12_part (d + 1) 23 [(0, .ref 53), (1, I_ x1), (2, I_ x2)] (v.toList ++ []) n' S' g' 0 0 P))) : V miX12_part (d + 1) 15 [(0, .ref 53), (1, I_ x1), (2, I_ x2)] [I_ xs0] n (W0 dy) g 0 0 P := by
  have c1 := h.1
  have h := h.2
  refine v_if_ne 9 rfl (tgt := 24) rfl c1 (fun q19 => ?_) (fun q19 => ?_)
  · have h := h.1 q19
    refine v_iload_n 14 2 rfl rfl rfl ?_
    have c2 := h.1
    have h := h.2
    by_cases q18 : x2 < 0 ∨ 6 < x2
    · have h := h.1 q18
      refine v_tswOut 15 rfl c2 q18 (tgt := 116) rfl ?_
      refine v_aload_n 50 0 rfl rfl rfl ?_
      refine v_bipush 51 rfl (by decide) ?_
      refine v_callV (st := []) [I_ 7] 52 rfl lv12_174_part_11 (al 53 rfl hn) (wk53 dy) (by decide) rfl (Nat.le_refl _) (Nat.le_refl _) ?_
      exact h
    by_cases q18_0 : x2 = 0
    · have h := h.2.1 q18_0
      refine v_tswIn 15 rfl c2 (by omega) (by omega) (off := 43) (tgt := 68) (by rw [q18_0]; rfl) rfl ?_
      refine v_aload_n 16 0 rfl rfl rfl ?_
      refine v_gK 17 rfl fl12_20_11.r (al 53 rfl hn) (wk53 dy) (by decide) rfl (r := 57) (wc53_6 dy) ?_
      refine v_iload_n 18 1 rfl rfl rfl ?_
      have c3 := h.1
      have h := h.2
      refine v_ia (N := 60) 19 rfl (al 57 rfl hn) (wk57 dy) (wn57 dy) (by decide) c3 (y := g 57 x1.toNat) rfl ?_
      refine v_rng fun w4 => ?_
      have r5 : i3 (g 57 x1.toNat) := rI w4 (q := x1.toNat) (al 57 rfl hn) (wk57 dy) rfl rfl
      exact v_ret (v := some (I_ (g 57 x1.toNat))) 20 rfl (Nat.zero_le _) (Nat.zero_le _) trivial rfl h
    by_cases q18_1 : x2 = 1
    · have h := h.2.2.1 q18_1
      refine v_tswIn 15 rfl c2 (by omega) (by omega) (off := 50) (tgt := 75) (by rw [q18_1]; rfl) rfl ?_
      refine v_aload_n 21 0 rfl rfl rfl ?_
      refine v_gK 22 rfl fl12_38_11.r (al 53 rfl hn) (wk53 dy) (by decide) rfl (r := 63) (wc53_12 dy) ?_
      refine v_iload_n 23 1 rfl rfl rfl ?_
      have c6 := h.1
      have h := h.2
      refine v_la (N := 60) 24 rfl (al 63 rfl hn) (wk63 dy) (wn63 dy) (by decide) c6 (y := g 63 x1.toNat) rfl ?_
      refine v_rng fun w7 => ?_
      have r8 : i6 (g 63 x1.toNat) := rL w7 (q := x1.toNat) (al 63 rfl hn) (wk63 dy) rfl rfl
      refine v_l2i 25 rfl ?_
      exact v_ret (v := some (I_ (g 63 x1.toNat))) 26 rfl (Nat.zero_le _) (Nat.zero_le _) trivial rfl h
    by_cases q18_2 : x2 = 2
    · have h := h.2.2.2.1 q18_2
      refine v_tswIn 15 rfl c2 (by omega) (by omega) (off := 58) (tgt := 83) (by rw [q18_2]; rfl) rfl ?_
      refine v_aload_n 27 0 rfl rfl rfl ?_
      refine v_gK 28 rfl fl12_29_11.r (al 53 rfl hn) (wk53 dy) (by decide) rfl (r := 60) (wc53_9 dy) ?_
      refine v_iload_n 29 1 rfl rfl rfl ?_
      have c9 := h.1
      have h := h.2
      refine v_ia (N := 60) 30 rfl (al 60 rfl hn) (wk60 dy) (wn60 dy) (by decide) c9 (y := g 60 x1.toNat) rfl ?_
      refine v_rng fun w10 => ?_
      have r11 : i3 (g 60 x1.toNat) := rI w10 (q := x1.toNat) (al 60 rfl hn) (wk60 dy) rfl rfl
      exact v_ret (v := some (I_ (g 60 x1.toNat))) 31 rfl (Nat.zero_le _) (Nat.zero_le _) trivial rfl h
    by_cases q18_3 : x2 = 3
    · have h := h.2.2.2.2.1 q18_3
      refine v_tswIn 15 rfl c2 (by omega) (by omega) (off := 65) (tgt := 90) (by rw [q18_3]; rfl) rfl ?_
      refine v_aload_n 32 0 rfl rfl rfl ?_
      refine v_gK 33 rfl fl12_32_11.r (al 53 rfl hn) (wk53 dy) (by decide) rfl (r := 61) (wc53_10 dy) ?_
      refine v_iload_n 34 1 rfl rfl rfl ?_
      have c12 := h.1
      have h := h.2
      refine v_ia (N := 60) 35 rfl (al 61 rfl hn) (wk61 dy) (wn61 dy) (by decide) c12 (y := g 61 x1.toNat) rfl ?_
      refine v_rng fun w13 => ?_
      have r14 : i3 (g 61 x1.toNat) := rI w13 (q := x1.toNat) (al 61 rfl hn) (wk61 dy) rfl rfl
      exact v_ret (v := some (I_ (g 61 x1.toNat))) 36 rfl (Nat.zero_le _) (Nat.zero_le _) trivial rfl h
    by_cases q18_4 : x2 = 4
    · have h := h.2.2.2.2.2.1 q18_4
      refine v_tswIn 15 rfl c2 (by omega) (by omega) (off := 72) (tgt := 97) (by rw [q18_4]; rfl) rfl ?_
      refine v_aload_n 37 0 rfl rfl rfl ?_
      refine v_gK 38 rfl fl12_35_11.r (al 53 rfl hn) (wk53 dy) (by decide) rfl (r := 62) (wc53_11 dy) ?_
      refine v_iload_n 39 1 rfl rfl rfl ?_
      have c15 := h.1
      have h := h.2
      refine v_ia (N := 60) 40 rfl (al 62 rfl hn) (wk62 dy) (wn62 dy) (by decide) c15 (y := g 62 x1.toNat) rfl ?_
      refine v_rng fun w16 => ?_
      have r17 : i3 (g 62 x1.toNat) := rI w16 (q := x1.toNat) (al 62 rfl hn) (wk62 dy) rfl rfl
      exact v_ret (v := some (I_ (g 62 x1.toNat))) 41 rfl (Nat.zero_le _) (Nat.zero_le _) trivial rfl h
    by_cases q18_5 : x2 = 5
    · have h := h.2.2.2.2.2.2.1 q18_5
      refine v_tswIn 15 rfl c2 (by omega) (by omega) (off := 79) (tgt := 104) (by rw [q18_5]; rfl) rfl ?_
      refine v_aload_n 42 0 rfl rfl rfl ?_
      refine v_iload_n 43 1 rfl rfl rfl ?_
      refine v_callV (st := []) [I_ x1] 44 rfl lv12_231_part_11 (al 53 rfl hn) (wk53 dy) (by decide) rfl (Nat.le_refl _) (Nat.le_refl _) ?_
      exact h
    by_cases q18_6 : x2 = 6
    · have h := h.2.2.2.2.2.2.2 q18_6
      refine v_tswIn 15 rfl c2 (by omega) (by omega) (off := 85) (tgt := 110) (by rw [q18_6]; rfl) rfl ?_
      refine v_aload_n 46 0 rfl rfl rfl ?_
      refine v_iload_n 47 1 rfl rfl rfl ?_
      refine v_callV (st := []) [I_ x1] 48 rfl lv12_234_part_11 (al 53 rfl hn) (wk53 dy) (by decide) rfl (Nat.le_refl _) (Nat.le_refl _) ?_
      exact h
    exfalso; omega
  · have h := h.2 q19
    refine v_aload_n 10 0 rfl rfl rfl ?_
    refine v_iconst 11 rfl ?_
    refine v_callV (st := []) [I_ 2] 12 rfl lv12_174_part_11 (al 53 rfl hn) (wk53 dy) (by decide) rfl (Nat.le_refl _) (Nat.le_refl _) ?_
    exact h
set_option maxHeartbeats 8000000 in
set_option maxRecDepth 4000 in
theorem bX12_part_23 {d n : Nat} {dy : Nat → Shp} {g : Hp} {P : Pst} {x1 : Int} {x2 : Int} {xs0 : Int} (hn : 100 ≤ n) (h : P (some (I_ xs0)) n (W0 dy) g) : V miX12_part (d + 1) 23 [(0, .ref 53), (1, I_ x1), (2, I_ x2)] [I_ xs0] n (W0 dy) g 0 0 P := by
  exact v_ret (v := some (I_ xs0)) 13 rfl (Nat.zero_le _) (Nat.zero_le _) trivial rfl h
set_option maxHeartbeats 8000000 in
set_option maxRecDepth 4000 in
theorem bX12_part_109 {d n : Nat} {dy : Nat → Shp} {g : Hp} {P : Pst} {x1 : Int} {x2 : Int} {xs0 : Int} (hn : 100 ≤ n) (h : P (some (I_ xs0)) n (W0 dy) g) : V miX12_part (d + 1) 109 [(0, .ref 53), (1, I_ x1), (2, I_ x2)] [I_ xs0] n (W0 dy) g 0 0 P := by
  exact v_ret (v := some (I_ xs0)) 45 rfl (Nat.zero_le _) (Nat.zero_le _) trivial rfl h
set_option maxHeartbeats 8000000 in
set_option maxRecDepth 4000 in
theorem bX12_part_115 {d n : Nat} {dy : Nat → Shp} {g : Hp} {P : Pst} {x1 : Int} {x2 : Int} {xs0 : Int} (hn : 100 ≤ n) (h : P (some (I_ xs0)) n (W0 dy) g) : V miX12_part (d + 1) 115 [(0, .ref 53), (1, I_ x1), (2, I_ x2)] [I_ xs0] n (W0 dy) g 0 0 P := by
  exact v_ret (v := some (I_ xs0)) 49 rfl (Nat.zero_le _) (Nat.zero_le _) trivial rfl h
set_option maxHeartbeats 8000000 in
set_option maxRecDepth 4000 in
theorem bX12_part_122 {d n : Nat} {dy : Nat → Shp} {g : Hp} {P : Pst} {x1 : Int} {x2 : Int} {xs0 : Int} (hn : 100 ≤ n) (h : P (some (I_ xs0)) n (W0 dy) g) : V miX12_part (d + 1) 122 [(0, .ref 53), (1, I_ x1), (2, I_ x2)] [I_ xs0] n (W0 dy) g 0 0 P := by
  exact v_ret (v := some (I_ xs0)) 53 rfl (Nat.zero_le _) (Nat.zero_le _) trivial rfl h
