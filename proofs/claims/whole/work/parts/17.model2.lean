theorem lv12_222_take_11 : LkV miX12_take miX12_isPart 222 1 11 := ⟨⟨⟨tbG_in (List.mem_append_right _ (List.mem_of_getElem? (i := 1400) (by decide +kernel))) rfl, tbG_in (List.mem_append_right _ (List.mem_of_getElem? (i := 9) (by decide +kernel))) rfl, tbG_in (List.mem_append_right _ (List.mem_of_getElem? (i := 1397) (by decide +kernel))) rfl⟩, ⟨by decide +kernel, by decide +kernel, by decide +kernel⟩, by decide⟩, tbG_in (List.mem_append_right _ (List.mem_of_getElem? (i := 1399) (by decide +kernel))) rfl, RX12, TX12, 58, rfl, tbG_in (List.mem_append_left _ (List.mem_of_getElem? (i := 56) (by decide +kernel))) rfl⟩
theorem lv12_247_take_11 : LkV miX12_take miX12_takeOff 247 1 11 := ⟨⟨⟨tbG_in (List.mem_append_right _ (List.mem_of_getElem? (i := 1444) (by decide +kernel))) rfl, tbG_in (List.mem_append_right _ (List.mem_of_getElem? (i := 9) (by decide +kernel))) rfl, tbG_in (List.mem_append_right _ (List.mem_of_getElem? (i := 1441) (by decide +kernel))) rfl⟩, ⟨by decide +kernel, by decide +kernel, by decide +kernel⟩, by decide⟩, tbG_in (List.mem_append_right _ (List.mem_of_getElem? (i := 1443) (by decide +kernel))) rfl, RX12, TX12, 58, rfl, tbG_in (List.mem_append_left _ (List.mem_of_getElem? (i := 62) (by decide +kernel))) rfl⟩
theorem lv12_155_take_11 : LkV miX12_take miX12_no 155 1 11 := ⟨⟨⟨tbG_in (List.mem_append_right _ (List.mem_of_getElem? (i := 1318) (by decide +kernel))) rfl, tbG_in (List.mem_append_right _ (List.mem_of_getElem? (i := 9) (by decide +kernel))) rfl, tbG_in (List.mem_append_right _ (List.mem_of_getElem? (i := 1315) (by decide +kernel))) rfl⟩, ⟨by decide +kernel, by decide +kernel, by decide +kernel⟩, by decide⟩, tbG_in (List.mem_append_right _ (List.mem_of_getElem? (i := 1317) (by decide +kernel))) rfl, RX12, TX12, 58, rfl, tbG_in (List.mem_append_left _ (List.mem_of_getElem? (i := 47) (by decide +kernel))) rfl⟩
set_option maxHeartbeats 8000000 in
set_option maxRecDepth 4000 in
theorem bX12_take_0 {d n : Nat} {dy : Nat → Shp} {g : Hp} {P : Pst} {x1 : Int} (hn : 100 ≤ n) (h : Runs miX12_isPart d [.ref 53, I_ x1] n (W0 dy) (up2 (up2 g 53 1 0) 53 0 0) (fun v n' S' g' => V miX12_take (d + 1) 15 [(0, .ref 53), (1, I_ x1)] (v.toList ++ []) n' S' g' 0 0 P)) : V miX12_take (d + 1) 0 [(0, .ref 53), (1, I_ x1)] [] n (W0 dy) g 0 0 P := by
  refine v_aload_n 0 0 rfl rfl rfl ?_
  refine v_iconst 1 rfl ?_
  refine v_putI 2 rfl fl12_148_11 (al 53 rfl hn) (wk53 dy) (by decide) rfl (wc53_1 dy) (by decide) ?_
  refine v_aload_n 3 0 rfl rfl rfl ?_
  refine v_iconst 4 rfl ?_
  refine v_putI 5 rfl fl12_152_11 (al 53 rfl hn) (wk53 dy) (by decide) rfl (wc53_0 dy) (by decide) ?_
  refine v_aload_n 6 0 rfl rfl rfl ?_
  refine v_iload_n 7 1 rfl rfl rfl ?_
  refine v_callV (st := []) [I_ x1] 8 rfl lv12_222_take_11 (al 53 rfl hn) (wk53 dy) (by decide) rfl (Nat.le_refl _) (Nat.le_refl _) ?_
  exact h
set_option maxHeartbeats 8000000 in
set_option maxRecDepth 4000 in
theorem bX12_take_15 {d n : Nat} {dy : Nat → Shp} {g : Hp} {P : Pst} {x1 : Int} {xs0 : Int} (hn : 100 ≤ n) (h : (i3 xs0) ∧ ((xs0 ≠ 0) → (0 ≤ x1 ∧ x1 < 60) ∧ ((0 ≤ (g 60 x1.toNat)) → Runs miX12_takeOff d [.ref 53, I_ x1] n (W0 dy) g (fun v n' S' g' => V miX12_take (d + 1) 45 [(0, .ref 53), (1, I_ x1)] (v.toList ++ []) n' S' g' 0 0 P)) ∧ (((g 60 x1.toNat) < 0) → Runs miX12_no d [.ref 53, I_ 8] n (W0 dy) g (fun v n' S' g' => V miX12_take (d + 1) 39 [(0, .ref 53), (1, I_ x1)] (v.toList ++ []) n' S' g' 0 0 P))) ∧ ((xs0 = 0) → Runs miX12_no d [.ref 53, I_ 2] n (W0 dy) g (fun v n' S' g' => V miX12_take (d + 1) 23 [(0, .ref 53), (1, I_ x1)] (v.toList ++ []) n' S' g' 0 0 P))) : V miX12_take (d + 1) 15 [(0, .ref 53), (1, I_ x1)] [I_ xs0] n (W0 dy) g 0 0 P := by
  have c1 := h.1
  have h := h.2
  refine v_if_ne 9 rfl (tgt := 24) rfl c1 (fun q2 => ?_) (fun q2 => ?_)
  · have h := h.1 q2
    refine v_aload_n 14 0 rfl rfl rfl ?_
    refine v_gK 15 rfl fl12_29_11.r (al 53 rfl hn) (wk53 dy) (by decide) rfl (r := 60) (wc53_9 dy) ?_
    refine v_iload_n 16 1 rfl rfl rfl ?_
    have c3 := h.1
    have h := h.2
    refine v_ia (N := 60) 17 rfl (al 60 rfl hn) (wk60 dy) (wn60 dy) (by decide) c3 (y := g 60 x1.toNat) rfl ?_
    refine v_rng fun w4 => ?_
    have p5 : i3 (g 60 x1.toNat) := rI w4 (q := x1.toNat) (al 60 rfl hn) (wk60 dy) rfl rfl
    refine v_if_ge 18 rfl (tgt := 40) rfl p5 (fun q6 => ?_) (fun q6 => ?_)
    · have h := h.1 q6
      refine v_aload_n 23 0 rfl rfl rfl ?_
      refine v_iload_n 24 1 rfl rfl rfl ?_
      refine v_callV (st := []) [I_ x1] 25 rfl lv12_247_take_11 (al 53 rfl hn) (wk53 dy) (by decide) rfl (Nat.le_refl _) (Nat.le_refl _) ?_
      exact h
    · have h := h.2 q6
      refine v_aload_n 19 0 rfl rfl rfl ?_
      refine v_bipush 20 rfl (by decide) ?_
      refine v_callV (st := []) [I_ 8] 21 rfl lv12_155_take_11 (al 53 rfl hn) (wk53 dy) (by decide) rfl (Nat.le_refl _) (Nat.le_refl _) ?_
      exact h
  · have h := h.2 q2
    refine v_aload_n 10 0 rfl rfl rfl ?_
    refine v_iconst 11 rfl ?_
    refine v_callV (st := []) [I_ 2] 12 rfl lv12_155_take_11 (al 53 rfl hn) (wk53 dy) (by decide) rfl (Nat.le_refl _) (Nat.le_refl _) ?_
    exact h
set_option maxHeartbeats 8000000 in
set_option maxRecDepth 4000 in
theorem bX12_take_23 {d n : Nat} {dy : Nat → Shp} {g : Hp} {P : Pst} {x1 : Int} {xs0 : Int} (hn : 100 ≤ n) (h : (xs0 = 0 ∨ xs0 = 1) ∧ P (some (I_ xs0)) n (W0 dy) g) : V miX12_take (d + 1) 23 [(0, .ref 53), (1, I_ x1)] [I_ xs0] n (W0 dy) g 0 0 P := by
  have c1 := h.1
  have h := h.2
  exact v_ret (v := some (I_ xs0)) 13 rfl (Nat.zero_le _) (Nat.zero_le _) (rokZ c1) rfl h
set_option maxHeartbeats 8000000 in
set_option maxRecDepth 4000 in
theorem bX12_take_39 {d n : Nat} {dy : Nat → Shp} {g : Hp} {P : Pst} {x1 : Int} {xs0 : Int} (hn : 100 ≤ n) (h : (xs0 = 0 ∨ xs0 = 1) ∧ P (some (I_ xs0)) n (W0 dy) g) : V miX12_take (d + 1) 39 [(0, .ref 53), (1, I_ x1)] [I_ xs0] n (W0 dy) g 0 0 P := by
  have c1 := h.1
  have h := h.2
  exact v_ret (v := some (I_ xs0)) 22 rfl (Nat.zero_le _) (Nat.zero_le _) (rokZ c1) rfl h
set_option maxHeartbeats 8000000 in
set_option maxRecDepth 4000 in
theorem bX12_take_45 {d n : Nat} {dy : Nat → Shp} {g : Hp} {P : Pst} {x1 : Int} (hn : 100 ≤ n) (h : P (some (I_ 1)) n (W0 dy) g) : V miX12_take (d + 1) 45 [(0, .ref 53), (1, I_ x1)] [] n (W0 dy) g 0 0 P := by
  refine v_iconst 26 rfl ?_
  exact v_ret (v := some (I_ 1)) 27 rfl (Nat.zero_le _) (Nat.zero_le _) (Or.inr rfl) rfl h
theorem wX12_take {d n : Nat} {dy : Nat → Shp} {g : Hp} {P : Pst} {x1 : Int} (hn : 100 ≤ n) (h : Runs miX12_isPart d [.ref 53, I_ x1] n (W0 dy) (up2 (up2 g 53 1 0) 53 0 0) (fun v n' S' g' => V miX12_take (d + 1) 15 [(0, .ref 53), (1, I_ x1)] (v.toList ++ []) n' S' g' 0 0 P)) : Runs miX12_take (d + 1) [.ref 53, I_ x1] n (W0 dy) g P := Runs.of rfl rfl deX12_take (Nat.le_of_ble_eq_true rfl) (bX12_take_0 hn h)
theorem lv12_222_thread_11 : LkV miX12_thread miX12_isPart 222 1 11 := ⟨⟨⟨tbG_in (List.mem_append_right _ (List.mem_of_getElem? (i := 1400) (by decide +kernel))) rfl, tbG_in (List.mem_append_right _ (List.mem_of_getElem? (i := 9) (by decide +kernel))) rfl, tbG_in (List.mem_append_right _ (List.mem_of_getElem? (i := 1397) (by decide +kernel))) rfl⟩, ⟨by decide +kernel, by decide +kernel, by decide +kernel⟩, by decide⟩, tbG_in (List.mem_append_right _ (List.mem_of_getElem? (i := 1399) (by decide +kernel))) rfl, RX12, TX12, 58, rfl, tbG_in (List.mem_append_left _ (List.mem_of_getElem? (i := 56) (by decide +kernel))) rfl⟩
theorem lv12_155_thread_11 : LkV miX12_thread miX12_no 155 1 11 := ⟨⟨⟨tbG_in (List.mem_append_right _ (List.mem_of_getElem? (i := 1318) (by decide +kernel))) rfl, tbG_in (List.mem_append_right _ (List.mem_of_getElem? (i := 9) (by decide +kernel))) rfl, tbG_in (List.mem_append_right _ (List.mem_of_getElem? (i := 1315) (by decide +kernel))) rfl⟩, ⟨by decide +kernel, by decide +kernel, by decide +kernel⟩, by decide⟩, tbG_in (List.mem_append_right _ (List.mem_of_getElem? (i := 1317) (by decide +kernel))) rfl, RX12, TX12, 58, rfl, tbG_in (List.mem_append_left _ (List.mem_of_getElem? (i := 47) (by decide +kernel))) rfl⟩
set_option maxHeartbeats 8000000 in
set_option maxRecDepth 4000 in
theorem bX12_thread_0 {d n : Nat} {dy : Nat → Shp} {g : Hp} {P : Pst} {x1 : Int} {x2 : Int} (hn : 100 ≤ n) (h : Runs miX12_isPart d [.ref 53, I_ x1] n (W0 dy) (up2 (up2 g 53 1 0) 53 0 0) (fun v n' S' g' => V miX12_thread (d + 1) 15 [(0, .ref 53), (1, I_ x1), (2, I_ x2)] (v.toList ++ []) n' S' g' 0 0 P)) : V miX12_thread (d + 1) 0 [(0, .ref 53), (1, I_ x1), (2, I_ x2)] [] n (W0 dy) g 0 0 P := by
  refine v_aload_n 0 0 rfl rfl rfl ?_
  refine v_iconst 1 rfl ?_
  refine v_putI 2 rfl fl12_148_11 (al 53 rfl hn) (wk53 dy) (by decide) rfl (wc53_1 dy) (by decide) ?_
  refine v_aload_n 3 0 rfl rfl rfl ?_
  refine v_iconst 4 rfl ?_
  refine v_putI 5 rfl fl12_152_11 (al 53 rfl hn) (wk53 dy) (by decide) rfl (wc53_0 dy) (by decide) ?_
  refine v_aload_n 6 0 rfl rfl rfl ?_
  refine v_iload_n 7 1 rfl rfl rfl ?_
  refine v_callV (st := []) [I_ x1] 8 rfl lv12_222_thread_11 (al 53 rfl hn) (wk53 dy) (by decide) rfl (Nat.le_refl _) (Nat.le_refl _) ?_
  exact h
set_option maxHeartbeats 8000000 in
set_option maxRecDepth 4000 in
theorem bX12_thread_15 {d n : Nat} {dy : Nat → Shp} {g : Hp} {P : Pst} {x1 : Int} {x2 : Int} {xs0 : Int} (hn : 100 ≤ n) (h : (i3 xs0) ∧ ((xs0 ≠ 0) → (0 ≤ x1 ∧ x1 < 60) ∧ ((0 ≤ (g 60 x1.toNat)) → (i3 x2) ∧ ((x2 < 1) → Runs miX12_no d [.ref 53, I_ 7] n (W0 dy) g (fun v n' S' g' => V miX12_thread (d + 1) 58 [(0, .ref 53), (1, I_ x1), (2, I_ x2)] (v.toList ++ []) n' S' g' 0 0 P)) ∧ ((1 ≤ x2) → ((x2 ≤ 1000) → P (some (I_ 1)) n (W0 dy) (up2 g 62 x1.toNat x2)) ∧ ((1000 < x2) → Runs miX12_no d [.ref 53, I_ 7] n (W0 dy) g (fun v n' S' g' => V miX12_thread (d + 1) 58 [(0, .ref 53), (1, I_ x1), (2, I_ x2)] (v.toList ++ []) n' S' g' 0 0 P)))) ∧ (((g 60 x1.toNat) < 0) → Runs miX12_no d [.ref 53, I_ 8] n (W0 dy) g (fun v n' S' g' => V miX12_thread (d + 1) 39 [(0, .ref 53), (1, I_ x1), (2, I_ x2)] (v.toList ++ []) n' S' g' 0 0 P))) ∧ ((xs0 = 0) → Runs miX12_no d [.ref 53, I_ 2] n (W0 dy) g (fun v n' S' g' => V miX12_thread (d + 1) 23 [(0, .ref 53), (1, I_ x1), (2, I_ x2)] (v.toList ++ []) n' S' g' 0 0 P))) : V miX12_thread (d + 1) 15 [(0, .ref 53), (1, I_ x1), (2, I_ x2)] [I_ xs0] n (W0 dy) g 0 0 P := by
  have c1 := h.1
  have h := h.2
  refine v_if_ne 9 rfl (tgt := 24) rfl c1 (fun q2 => ?_) (fun q2 => ?_)
  · have h := h.1 q2
    refine v_aload_n 14 0 rfl rfl rfl ?_
    refine v_gK 15 rfl fl12_29_11.r (al 53 rfl hn) (wk53 dy) (by decide) rfl (r := 60) (wc53_9 dy) ?_
    refine v_iload_n 16 1 rfl rfl rfl ?_
    have c3 := h.1
    have h := h.2
    refine v_ia (N := 60) 17 rfl (al 60 rfl hn) (wk60 dy) (wn60 dy) (by decide) c3 (y := g 60 x1.toNat) rfl ?_
    refine v_rng fun w4 => ?_
    have p5 : i3 (g 60 x1.toNat) := rI w4 (q := x1.toNat) (al 60 rfl hn) (wk60 dy) rfl rfl
    refine v_if_ge 18 rfl (tgt := 40) rfl p5 (fun q6 => ?_) (fun q6 => ?_)
    · have h := h.1 q6
      refine v_iload_n 23 2 rfl rfl rfl ?_
      refine v_iconst 24 rfl ?_
      have c7 := h.1
      have h := h.2
      refine v_icmp_lt 25 rfl (tgt := 52) rfl c7 (by decide) (fun q8 => ?_) (fun q8 => ?_)
      · have h := h.1 q8
        refine v_aload_n 29 0 rfl rfl rfl ?_
        refine v_bipush 30 rfl (by decide) ?_
        refine v_callV (st := []) [I_ 7] 31 rfl lv12_155_thread_11 (al 53 rfl hn) (wk53 dy) (by decide) rfl (Nat.le_refl _) (Nat.le_refl _) ?_
        exact h
      · have h := h.2 q8
        refine v_iload_n 26 2 rfl rfl rfl ?_
        refine v_sipush 27 rfl (by decide) ?_
        refine v_icmp_le 28 rfl (tgt := 59) rfl c7 (by decide) (fun q9 => ?_) (fun q9 => ?_)
        · have h := h.1 q9
          refine v_aload_n 33 0 rfl rfl rfl ?_
          refine v_gK 34 rfl fl12_35_11.r (al 53 rfl hn) (wk53 dy) (by decide) rfl (r := 62) (wc53_11 dy) ?_
          refine v_iload_n 35 1 rfl rfl rfl ?_
          refine v_iload_n 36 2 rfl rfl rfl ?_
          refine v_iast (N := 60) 37 rfl (al 62 rfl hn) (wk62 dy) (wn62 dy) (by decide) c3 c7 ?_
          refine v_iconst 38 rfl ?_
          exact v_ret (v := some (I_ 1)) 39 rfl (Nat.zero_le _) (Nat.zero_le _) (Or.inr rfl) rfl h
        · have h := h.2 q9
          refine v_aload_n 29 0 rfl rfl rfl ?_
          refine v_bipush 30 rfl (by decide) ?_
          refine v_callV (st := []) [I_ 7] 31 rfl lv12_155_thread_11 (al 53 rfl hn) (wk53 dy) (by decide) rfl (Nat.le_refl _) (Nat.le_refl _) ?_
          exact h
    · have h := h.2 q6
      refine v_aload_n 19 0 rfl rfl rfl ?_
      refine v_bipush 20 rfl (by decide) ?_
      refine v_callV (st := []) [I_ 8] 21 rfl lv12_155_thread_11 (al 53 rfl hn) (wk53 dy) (by decide) rfl (Nat.le_refl _) (Nat.le_refl _) ?_
      exact h
  · have h := h.2 q2
    refine v_aload_n 10 0 rfl rfl rfl ?_
    refine v_iconst 11 rfl ?_
    refine v_callV (st := []) [I_ 2] 12 rfl lv12_155_thread_11 (al 53 rfl hn) (wk53 dy) (by decide) rfl (Nat.le_refl _) (Nat.le_refl _) ?_
    exact h
set_option maxHeartbeats 8000000 in
set_option maxRecDepth 4000 in
theorem bX12_thread_23 {d n : Nat} {dy : Nat → Shp} {g : Hp} {P : Pst} {x1 : Int} {x2 : Int} {xs0 : Int} (hn : 100 ≤ n) (h : (xs0 = 0 ∨ xs0 = 1) ∧ P (some (I_ xs0)) n (W0 dy) g) : V miX12_thread (d + 1) 23 [(0, .ref 53), (1, I_ x1), (2, I_ x2)] [I_ xs0] n (W0 dy) g 0 0 P := by
  have c1 := h.1
  have h := h.2
  exact v_ret (v := some (I_ xs0)) 13 rfl (Nat.zero_le _) (Nat.zero_le _) (rokZ c1) rfl h
set_option maxHeartbeats 8000000 in
set_option maxRecDepth 4000 in
theorem bX12_thread_39 {d n : Nat} {dy : Nat → Shp} {g : Hp} {P : Pst} {x1 : Int} {x2 : Int} {xs0 : Int} (hn : 100 ≤ n) (h : (xs0 = 0 ∨ xs0 = 1) ∧ P (some (I_ xs0)) n (W0 dy) g) : V miX12_thread (d + 1) 39 [(0, .ref 53), (1, I_ x1), (2, I_ x2)] [I_ xs0] n (W0 dy) g 0 0 P := by
  have c1 := h.1
  have h := h.2
  exact v_ret (v := some (I_ xs0)) 22 rfl (Nat.zero_le _) (Nat.zero_le _) (rokZ c1) rfl h
set_option maxHeartbeats 8000000 in
set_option maxRecDepth 4000 in
theorem bX12_thread_58 {d n : Nat} {dy : Nat → Shp} {g : Hp} {P : Pst} {x1 : Int} {x2 : Int} {xs0 : Int} (hn : 100 ≤ n) (h : (xs0 = 0 ∨ xs0 = 1) ∧ P (some (I_ xs0)) n (W0 dy) g) : V miX12_thread (d + 1) 58 [(0, .ref 53), (1, I_ x1), (2, I_ x2)] [I_ xs0] n (W0 dy) g 0 0 P := by
  have c1 := h.1
  have h := h.2
  exact v_ret (v := some (I_ xs0)) 32 rfl (Nat.zero_le _) (Nat.zero_le _) (rokZ c1) rfl h
theorem wX12_thread {d n : Nat} {dy : Nat → Shp} {g : Hp} {P : Pst} {x1 : Int} {x2 : Int} (hn : 100 ≤ n) (h : Runs miX12_isPart d [.ref 53, I_ x1] n (W0 dy) (up2 (up2 g 53 1 0) 53 0 0) (fun v n' S' g' => V miX12_thread (d + 1) 15 [(0, .ref 53), (1, I_ x1), (2, I_ x2)] (v.toList ++ []) n' S' g' 0 0 P)) : Runs miX12_thread (d + 1) [.ref 53, I_ x1, I_ x2] n (W0 dy) g P := Runs.of rfl rfl deX12_thread (Nat.le_of_ble_eq_true rfl) (bX12_thread_0 hn h)
theorem lv12_240_tied_11 : LkV miX12_tied miX12_rodded 240 1 11 := ⟨⟨⟨tbG_in (List.mem_append_right _ (List.mem_of_getElem? (i := 1424) (by decide +kernel))) rfl, tbG_in (List.mem_append_right _ (List.mem_of_getElem? (i := 9) (by decide +kernel))) rfl, tbG_in (List.mem_append_right _ (List.mem_of_getElem? (i := 1421) (by decide +kernel))) rfl⟩, ⟨by decide +kernel, by decide +kernel, by decide +kernel⟩, by decide⟩, tbG_in (List.mem_append_right _ (List.mem_of_getElem? (i := 1423) (by decide +kernel))) rfl, RX12, TX12, 58, rfl, tbG_in (List.mem_append_left _ (List.mem_of_getElem? (i := 59) (by decide +kernel))) rfl⟩
theorem lv12_155_tied_11 : LkV miX12_tied miX12_no 155 1 11 := ⟨⟨⟨tbG_in (List.mem_append_right _ (List.mem_of_getElem? (i := 1318) (by decide +kernel))) rfl, tbG_in (List.mem_append_right _ (List.mem_of_getElem? (i := 9) (by decide +kernel))) rfl, tbG_in (List.mem_append_right _ (List.mem_of_getElem? (i := 1315) (by decide +kernel))) rfl⟩, ⟨by decide +kernel, by decide +kernel, by decide +kernel⟩, by decide⟩, tbG_in (List.mem_append_right _ (List.mem_of_getElem? (i := 1317) (by decide +kernel))) rfl, RX12, TX12, 58, rfl, tbG_in (List.mem_append_left _ (List.mem_of_getElem? (i := 47) (by decide +kernel))) rfl⟩
set_option maxHeartbeats 8000000 in
set_option maxRecDepth 4000 in
theorem bX12_tied_0 {d n : Nat} {dy : Nat → Shp} {g : Hp} {P : Pst} {x1 : Int} {x2 : Int} {x3 : Int} (hn : 100 ≤ n) (h : Runs miX12_rodded d [.ref 53, I_ x1] n (W0 dy) (up2 g 53 1 0) (fun v n' S' g' => V miX12_tied (d + 1) 11 [(0, .ref 53), (1, I_ x1), (2, I_ x2), (3, I_ x3)] (v.toList ++ [.ref 53]) n' S' g' 0 0 P)) : V miX12_tied (d + 1) 0 [(0, .ref 53), (1, I_ x1), (2, I_ x2), (3, I_ x3)] [] n (W0 dy) g 0 0 P := by
  refine v_aload_n 0 0 rfl rfl rfl ?_
  refine v_iconst 1 rfl ?_
  refine v_putI 2 rfl fl12_148_11 (al 53 rfl hn) (wk53 dy) (by decide) rfl (wc53_1 dy) (by decide) ?_
  refine v_aload_n 3 0 rfl rfl rfl ?_
  refine v_aload_n 4 0 rfl rfl rfl ?_
  refine v_iload_n 5 1 rfl rfl rfl ?_
  refine v_callV (st := [.ref 53]) [I_ x1] 6 rfl lv12_240_tied_11 (al 53 rfl hn) (wk53 dy) (by decide) rfl (Nat.le_refl _) (Nat.le_refl _) ?_
  exact h
set_option maxHeartbeats 8000000 in
set_option maxRecDepth 4000 in
theorem bX12_tied_11 {d n : Nat} {dy : Nat → Shp} {g : Hp} {P : Pst} {x1 : Int} {x2 : Int} {x3 : Int} {xs1 : Int} (hn : 100 ≤ n) (h : (i3 xs1) ∧ ((xs1 ≤ 0) → (i3 x3) ∧ ((x3 < 2) → Runs miX12_no d [.ref 53, I_ 7] n (W0 dy) (up2 g 53 0 xs1) (fun v n' S' g' => V miX12_tied (d + 1) 50 [(0, .ref 53), (1, I_ x1), (2, I_ x2), (3, I_ x3)] (v.toList ++ []) n' S' g' 0 0 P)) ∧ ((2 ≤ x3) → ((1000000 < x3) → Runs miX12_no d [.ref 53, I_ 7] n (W0 dy) (up2 g 53 0 xs1) (fun v n' S' g' => V miX12_tied (d + 1) 50 [(0, .ref 53), (1, I_ x1), (2, I_ x2), (3, I_ x3)] (v.toList ++ []) n' S' g' 0 0 P)) ∧ ((x3 ≤ 1000000) → (i3 x2) ∧ ((x2 < 1) → Runs miX12_no d [.ref 53, I_ 7] n (W0 dy) (up2 g 53 0 xs1) (fun v n' S' g' => V miX12_tied (d + 1) 50 [(0, .ref 53), (1, I_ x1), (2, I_ x2), (3, I_ x3)] (v.toList ++ []) n' S' g' 0 0 P)) ∧ ((1 ≤ x2) → ((x2 < x3) → (0 ≤ x1 ∧ x1 < 60) ∧ P (some (I_ 1)) n (W0 dy) (up2 (up2 (up2 g 53 0 xs1) 64 x1.toNat x2) 65 x1.toNat x3)) ∧ ((x3 ≤ x2) → Runs miX12_no d [.ref 53, I_ 7] n (W0 dy) (up2 g 53 0 xs1) (fun v n' S' g' => V miX12_tied (d + 1) 50 [(0, .ref 53), (1, I_ x1), (2, I_ x2), (3, I_ x3)] (v.toList ++ []) n' S' g' 0 0 P)))))) ∧ ((0 < xs1) → P (some (I_ 0)) n (W0 dy) (up2 g 53 0 xs1))) : V miX12_tied (d + 1) 11 [(0, .ref 53), (1, I_ x1), (2, I_ x2), (3, I_ x3)] [I_ xs1, .ref 53] n (W0 dy) g 0 0 P := by
  have c1 := h.1
  have h := h.2
  refine v_putI 7 rfl fl12_152_11 (al 53 rfl hn) (wk53 dy) (by decide) rfl (wc53_0 dy) c1 ?_
  refine v_aload_n 8 0 rfl rfl rfl ?_
  refine v_gI 9 rfl fl12_152_11.r (al 53 rfl hn) (wk53 dy) (by decide) rfl (wc53_0 dy) (x := xs1) rfl ?_
  refine v_rng fun w2 => ?_
  have p3 : i3 (xs1) := rI w2 (q := 0) (al 53 rfl hn) (wk53 dy) rfl rfl
  refine v_if_le 10 rfl (tgt := 23) rfl p3 (fun q4 => ?_) (fun q4 => ?_)
  · have h := h.1 q4
    refine v_iload_n 13 3 rfl rfl rfl ?_
    refine v_iconst 14 rfl ?_
    have c5 := h.1
    have h := h.2
    refine v_icmp_lt 15 rfl (tgt := 44) rfl c5 (by decide) (fun q6 => ?_) (fun q6 => ?_)
    · have h := h.1 q6
      refine v_aload_n 25 0 rfl rfl rfl ?_
      refine v_bipush 26 rfl (by decide) ?_
      refine v_callV (st := []) [I_ 7] 27 rfl lv12_155_tied_11 (al 53 rfl hn) (wk53 dy) (by decide) rfl (Nat.le_refl _) (Nat.le_refl _) ?_
      exact h
    · have h := h.2 q6
      refine v_iload_n 16 3 rfl rfl rfl ?_
      refine v_ldc (v := 1000000) 17 rfl (tbG_in (List.mem_append_right _ (List.mem_of_getElem? (i := 1453) (by decide +kernel))) rfl) ?_
      refine v_icmp_gt 18 rfl (tgt := 44) rfl c5 (by decide) (fun q7 => ?_) (fun q7 => ?_)
      · have h := h.1 q7
        refine v_aload_n 25 0 rfl rfl rfl ?_
        refine v_bipush 26 rfl (by decide) ?_
        refine v_callV (st := []) [I_ 7] 27 rfl lv12_155_tied_11 (al 53 rfl hn) (wk53 dy) (by decide) rfl (Nat.le_refl _) (Nat.le_refl _) ?_
        exact h
      · have h := h.2 q7
        refine v_iload_n 19 2 rfl rfl rfl ?_
        refine v_iconst 20 rfl ?_
        have c8 := h.1
        have h := h.2
        refine v_icmp_lt 21 rfl (tgt := 44) rfl c8 (by decide) (fun q9 => ?_) (fun q9 => ?_)
        · have h := h.1 q9
          refine v_aload_n 25 0 rfl rfl rfl ?_
          refine v_bipush 26 rfl (by decide) ?_
          refine v_callV (st := []) [I_ 7] 27 rfl lv12_155_tied_11 (al 53 rfl hn) (wk53 dy) (by decide) rfl (Nat.le_refl _) (Nat.le_refl _) ?_
          exact h
        · have h := h.2 q9
          refine v_iload_n 22 2 rfl rfl rfl ?_
          refine v_iload_n 23 3 rfl rfl rfl ?_
          refine v_icmp_lt 24 rfl (tgt := 51) rfl c8 c5 (fun q10 => ?_) (fun q10 => ?_)
          · have h := h.1 q10
            refine v_aload_n 29 0 rfl rfl rfl ?_
            refine v_gK 30 rfl fl12_41_11.r (al 53 rfl hn) (wk53 dy) (by decide) rfl (r := 64) (wc53_13 dy) ?_
            refine v_iload_n 31 1 rfl rfl rfl ?_
            refine v_iload_n 32 2 rfl rfl rfl ?_
            refine v_i2l 33 rfl c8 ?_
            have c11 := h.1
            have h := h.2
            refine v_last (N := 60) 34 rfl (al 64 rfl hn) (wk64 dy) (wn64 dy) (by decide) c11 (i36 c8) ?_
            refine v_aload_n 35 0 rfl rfl rfl ?_
            refine v_gK 36 rfl fl12_44_11.r (al 53 rfl hn) (wk53 dy) (by decide) rfl (r := 65) (wc53_14 dy) ?_
            refine v_iload_n 37 1 rfl rfl rfl ?_
            refine v_iload_n 38 3 rfl rfl rfl ?_
            refine v_i2l 39 rfl c5 ?_
            refine v_last (N := 60) 40 rfl (al 65 rfl hn) (wk65 dy) (wn65 dy) (by decide) c11 (i36 c5) ?_
            refine v_iconst 41 rfl ?_
            exact v_ret (v := some (I_ 1)) 42 rfl (Nat.zero_le _) (Nat.zero_le _) (Or.inr rfl) rfl h
          · have h := h.2 q10
            refine v_aload_n 25 0 rfl rfl rfl ?_
            refine v_bipush 26 rfl (by decide) ?_
            refine v_callV (st := []) [I_ 7] 27 rfl lv12_155_tied_11 (al 53 rfl hn) (wk53 dy) (by decide) rfl (Nat.le_refl _) (Nat.le_refl _) ?_
            exact h
  · have h := h.2 q4
    refine v_iconst 11 rfl ?_
    exact v_ret (v := some (I_ 0)) 12 rfl (Nat.zero_le _) (Nat.zero_le _) (Or.inl rfl) rfl h
set_option maxHeartbeats 8000000 in
set_option maxRecDepth 4000 in
theorem bX12_tied_50 {d n : Nat} {dy : Nat → Shp} {g : Hp} {P : Pst} {x1 : Int} {x2 : Int} {x3 : Int} {xs0 : Int} (hn : 100 ≤ n) (h : (xs0 = 0 ∨ xs0 = 1) ∧ P (some (I_ xs0)) n (W0 dy) g) : V miX12_tied (d + 1) 50 [(0, .ref 53), (1, I_ x1), (2, I_ x2), (3, I_ x3)] [I_ xs0] n (W0 dy) g 0 0 P := by
  have c1 := h.1
  have h := h.2
  exact v_ret (v := some (I_ xs0)) 28 rfl (Nat.zero_le _) (Nat.zero_le _) (rokZ c1) rfl h
theorem wX12_tied {d n : Nat} {dy : Nat → Shp} {g : Hp} {P : Pst} {x1 : Int} {x2 : Int} {x3 : Int} (hn : 100 ≤ n) (h : Runs miX12_rodded d [.ref 53, I_ x1] n (W0 dy) (up2 g 53 1 0) (fun v n' S' g' => V miX12_tied (d + 1) 11 [(0, .ref 53), (1, I_ x1), (2, I_ x2), (3, I_ x3)] (v.toList ++ [.ref 53]) n' S' g' 0 0 P)) : Runs miX12_tied (d + 1) [.ref 53, I_ x1, I_ x2, I_ x3] n (W0 dy) g P := Runs.of rfl rfl deX12_tied (Nat.le_of_ble_eq_true rfl) (bX12_tied_0 hn h)
theorem lv12_240_swap_11 : LkV miX12_swap miX12_rodded 240 1 11 := ⟨⟨⟨tbG_in (List.mem_append_right _ (List.mem_of_getElem? (i := 1424) (by decide +kernel))) rfl, tbG_in (List.mem_append_right _ (List.mem_of_getElem? (i := 9) (by decide +kernel))) rfl, tbG_in (List.mem_append_right _ (List.mem_of_getElem? (i := 1421) (by decide +kernel))) rfl⟩, ⟨by decide +kernel, by decide +kernel, by decide +kernel⟩, by decide⟩, tbG_in (List.mem_append_right _ (List.mem_of_getElem? (i := 1423) (by decide +kernel))) rfl, RX12, TX12, 58, rfl, tbG_in (List.mem_append_left _ (List.mem_of_getElem? (i := 59) (by decide +kernel))) rfl⟩
set_option maxHeartbeats 8000000 in
set_option maxRecDepth 4000 in
theorem bX12_swap_0 {d n : Nat} {dy : Nat → Shp} {g : Hp} {P : Pst} {x1 : Int} (hn : 100 ≤ n) (h : Runs miX12_rodded d [.ref 53, I_ x1] n (W0 dy) (up2 g 53 1 0) (fun v n' S' g' => V miX12_swap (d + 1) 11 [(0, .ref 53), (1, I_ x1)] (v.toList ++ [.ref 53]) n' S' g' 0 0 P)) : V miX12_swap (d + 1) 0 [(0, .ref 53), (1, I_ x1)] [] n (W0 dy) g 0 0 P := by
  refine v_aload_n 0 0 rfl rfl rfl ?_
  refine v_iconst 1 rfl ?_
  refine v_putI 2 rfl fl12_148_11 (al 53 rfl hn) (wk53 dy) (by decide) rfl (wc53_1 dy) (by decide) ?_
  refine v_aload_n 3 0 rfl rfl rfl ?_
  refine v_aload_n 4 0 rfl rfl rfl ?_
  refine v_iload_n 5 1 rfl rfl rfl ?_
  refine v_callV (st := [.ref 53]) [I_ x1] 6 rfl lv12_240_swap_11 (al 53 rfl hn) (wk53 dy) (by decide) rfl (Nat.le_refl _) (Nat.le_refl _) ?_
  exact h
set_option maxHeartbeats 8000000 in
set_option maxRecDepth 4000 in
theorem bX12_swap_11 {d n : Nat} {dy : Nat → Shp} {g : Hp} {P : Pst} {x1 : Int} {xs1 : Int} (hn : 100 ≤ n) (h : (i3 xs1) ∧ ((xs1 ≤ 0) → (0 ≤ x1 ∧ x1 < 60) ∧ ((((up2 (up2 g 53 0 xs1) 66 x1.toNat (g 67 x1.toNat)) 66 x1.toNat) < 0) → ((((up2 (up2 (up2 g 53 0 xs1) 66 x1.toNat (g 67 x1.toNat)) 67 x1.toNat (g 66 x1.toNat)) 67 x1.toNat) < 0) → P (some (I_ 1)) n (W0 dy) (up2 (up2 (up2 g 53 0 xs1) 66 x1.toNat (g 67 x1.toNat)) 67 x1.toNat (g 66 x1.toNat))) ∧ ((0 ≤ ((up2 (up2 (up2 g 53 0 xs1) 66 x1.toNat (g 67 x1.toNat)) 67 x1.toNat (g 66 x1.toNat)) 67 x1.toNat)) → (0 ≤ (up2 (up2 (up2 g 53 0 xs1) 66 x1.toNat (g 67 x1.toNat)) 67 x1.toNat (g 66 x1.toNat)) 67 x1.toNat ∧ (up2 (up2 (up2 g 53 0 xs1) 66 x1.toNat (g 67 x1.toNat)) 67 x1.toNat (g 66 x1.toNat)) 67 x1.toNat < 60) ∧ P (some (I_ 1)) n (W0 dy) (up2 (up2 (up2 (up2 g 53 0 xs1) 66 x1.toNat (g 67 x1.toNat)) 67 x1.toNat (g 66 x1.toNat)) 61 (((up2 (up2 (up2 g 53 0 xs1) 66 x1.toNat (g 67 x1.toNat)) 67 x1.toNat (g 66 x1.toNat)) 67 x1.toNat).toNat) 1))) ∧ ((0 ≤ ((up2 (up2 g 53 0 xs1) 66 x1.toNat (g 67 x1.toNat)) 66 x1.toNat)) → (0 ≤ (up2 (up2 g 53 0 xs1) 66 x1.toNat (g 67 x1.toNat)) 66 x1.toNat ∧ (up2 (up2 g 53 0 xs1) 66 x1.toNat (g 67 x1.toNat)) 66 x1.toNat < 60) ∧ ((((up2 (up2 (up2 g 53 0 xs1) 66 x1.toNat (g 67 x1.toNat)) 67 x1.toNat (g 66 x1.toNat)) 67 x1.toNat) < 0) → P (some (I_ 1)) n (W0 dy) (up2 (up2 (up2 (up2 g 53 0 xs1) 66 x1.toNat (g 67 x1.toNat)) 67 x1.toNat (g 66 x1.toNat)) 61 (((up2 (up2 g 53 0 xs1) 66 x1.toNat (g 67 x1.toNat)) 66 x1.toNat).toNat) 0)) ∧ ((0 ≤ ((up2 (up2 (up2 g 53 0 xs1) 66 x1.toNat (g 67 x1.toNat)) 67 x1.toNat (g 66 x1.toNat)) 67 x1.toNat)) → (0 ≤ (up2 (up2 (up2 g 53 0 xs1) 66 x1.toNat (g 67 x1.toNat)) 67 x1.toNat (g 66 x1.toNat)) 67 x1.toNat ∧ (up2 (up2 (up2 g 53 0 xs1) 66 x1.toNat (g 67 x1.toNat)) 67 x1.toNat (g 66 x1.toNat)) 67 x1.toNat < 60) ∧ P (some (I_ 1)) n (W0 dy) (up2 (up2 (up2 (up2 (up2 g 53 0 xs1) 66 x1.toNat (g 67 x1.toNat)) 67 x1.toNat (g 66 x1.toNat)) 61 (((up2 (up2 g 53 0 xs1) 66 x1.toNat (g 67 x1.toNat)) 66 x1.toNat).toNat) 0) 61 (((up2 (up2 (up2 g 53 0 xs1) 66 x1.toNat (g 67 x1.toNat)) 67 x1.toNat (g 66 x1.toNat)) 67 x1.toNat).toNat) 1)))) ∧ ((0 < xs1) → P (some (I_ 0)) n (W0 dy) (up2 g 53 0 xs1))) : V miX12_swap (d + 1) 11 [(0, .ref 53), (1, I_ x1)] [I_ xs1, .ref 53] n (W0 dy) g 0 0 P := by
  have c1 := h.1
  have h := h.2
  refine v_putI 7 rfl fl12_152_11 (al 53 rfl hn) (wk53 dy) (by decide) rfl (wc53_0 dy) c1 ?_
  refine v_aload_n 8 0 rfl rfl rfl ?_
  refine v_gI 9 rfl fl12_152_11.r (al 53 rfl hn) (wk53 dy) (by decide) rfl (wc53_0 dy) (x := xs1) rfl ?_
  refine v_rng fun w2 => ?_
  have p3 : i3 (xs1) := rI w2 (q := 0) (al 53 rfl hn) (wk53 dy) rfl rfl
  refine v_if_le 10 rfl (tgt := 23) rfl p3 (fun q4 => ?_) (fun q4 => ?_)
  · have h := h.1 q4
    refine v_aload_n 13 0 rfl rfl rfl ?_
    refine v_gK 14 rfl fl12_47_11.r (al 53 rfl hn) (wk53 dy) (by decide) rfl (r := 66) (wc53_15 dy) ?_
    refine v_iload_n 15 1 rfl rfl rfl ?_
    have c5 := h.1
    have h := h.2
    refine v_ia (N := 60) 16 rfl (al 66 rfl hn) (wk66 dy) (wn66 dy) (by decide) c5 (y := g 66 x1.toNat) rfl ?_
    refine v_rng fun w6 => ?_
    have p7 : i3 (g 66 x1.toNat) := rI w6 (q := x1.toNat) (al 66 rfl hn) (wk66 dy) rfl rfl
    refine v_istore_n 17 [1, 2, 0] rfl rfl (by decide) rfl ?_
    refine v_aload_n 18 0 rfl rfl rfl ?_
    refine v_gK 19 rfl fl12_47_11.r (al 53 rfl hn) (wk53 dy) (by decide) rfl (r := 66) (wc53_15 dy) ?_
    refine v_iload_n 20 1 rfl rfl rfl ?_
    refine v_aload_n 21 0 rfl rfl rfl ?_
    refine v_gK 22 rfl fl12_50_11.r (al 53 rfl hn) (wk53 dy) (by decide) rfl (r := 67) (wc53_16 dy) ?_
    refine v_iload_n 23 1 rfl rfl rfl ?_
    refine v_ia (N := 60) 24 rfl (al 67 rfl hn) (wk67 dy) (wn67 dy) (by decide) c5 (y := g 67 x1.toNat) rfl ?_
    refine v_rng fun w8 => ?_
    have p9 : i3 (g 67 x1.toNat) := rI w8 (q := x1.toNat) (al 67 rfl hn) (wk67 dy) rfl rfl
    refine v_iast (N := 60) 25 rfl (al 66 rfl hn) (wk66 dy) (wn66 dy) (by decide) c5 p9 ?_
    refine v_aload_n 26 0 rfl rfl rfl ?_
    refine v_gK 27 rfl fl12_50_11.r (al 53 rfl hn) (wk53 dy) (by decide) rfl (r := 67) (wc53_16 dy) ?_
    refine v_iload_n 28 1 rfl rfl rfl ?_
    refine v_iload_n 29 2 rfl rfl rfl ?_
    refine v_iast (N := 60) 30 rfl (al 67 rfl hn) (wk67 dy) (wn67 dy) (by decide) c5 p7 ?_
    refine v_aload_n 31 0 rfl rfl rfl ?_
    refine v_gK 32 rfl fl12_47_11.r (al 53 rfl hn) (wk53 dy) (by decide) rfl (r := 66) (wc53_15 dy) ?_
    refine v_iload_n 33 1 rfl rfl rfl ?_
    refine v_ia (N := 60) 34 rfl (al 66 rfl hn) (wk66 dy) (wn66 dy) (by decide) c5 (y := (up2 (up2 g 53 0 xs1) 66 x1.toNat (g 67 x1.toNat)) 66 x1.toNat) rfl ?_
    refine v_rng fun w10 => ?_
    have p11 : i3 ((up2 (up2 g 53 0 xs1) 66 x1.toNat (g 67 x1.toNat)) 66 x1.toNat) := rI w10 (q := x1.toNat) (al 66 rfl hn) (wk66 dy) rfl rfl
    refine v_if_lt 35 rfl (tgt := 70) rfl p11 (fun q12 => ?_) (fun q12 => ?_)
    · have h := h.1 q12
      refine v_aload_n 44 0 rfl rfl rfl ?_
      refine v_gK 45 rfl fl12_50_11.r (al 53 rfl hn) (wk53 dy) (by decide) rfl (r := 67) (wc53_16 dy) ?_
      refine v_iload_n 46 1 rfl rfl rfl ?_
      refine v_ia (N := 60) 47 rfl (al 67 rfl hn) (wk67 dy) (wn67 dy) (by decide) c5 (y := (up2 (up2 (up2 g 53 0 xs1) 66 x1.toNat (g 67 x1.toNat)) 67 x1.toNat (g 66 x1.toNat)) 67 x1.toNat) rfl ?_
      refine v_rng fun w13 => ?_
      have p14 : i3 ((up2 (up2 (up2 g 53 0 xs1) 66 x1.toNat (g 67 x1.toNat)) 67 x1.toNat (g 66 x1.toNat)) 67 x1.toNat) := rI w13 (q := x1.toNat) (al 67 rfl hn) (wk67 dy) rfl rfl
      refine v_if_lt 48 rfl (tgt := 91) rfl p14 (fun q15 => ?_) (fun q15 => ?_)
      · have h := h.1 q15
        refine v_iconst 57 rfl ?_
        exact v_ret (v := some (I_ 1)) 58 rfl (Nat.zero_le _) (Nat.zero_le _) (Or.inr rfl) rfl h
      · have h := h.2 q15
        refine v_aload_n 49 0 rfl rfl rfl ?_
        refine v_gK 50 rfl fl12_32_11.r (al 53 rfl hn) (wk53 dy) (by decide) rfl (r := 61) (wc53_10 dy) ?_
        refine v_aload_n 51 0 rfl rfl rfl ?_
        refine v_gK 52 rfl fl12_50_11.r (al 53 rfl hn) (wk53 dy) (by decide) rfl (r := 67) (wc53_16 dy) ?_
        refine v_iload_n 53 1 rfl rfl rfl ?_
        refine v_ia (N := 60) 54 rfl (al 67 rfl hn) (wk67 dy) (wn67 dy) (by decide) c5 (y := (up2 (up2 (up2 g 53 0 xs1) 66 x1.toNat (g 67 x1.toNat)) 67 x1.toNat (g 66 x1.toNat)) 67 x1.toNat) rfl ?_
        refine v_rng fun w16 => ?_
        have p17 : i3 ((up2 (up2 (up2 g 53 0 xs1) 66 x1.toNat (g 67 x1.toNat)) 67 x1.toNat (g 66 x1.toNat)) 67 x1.toNat) := rI w16 (q := x1.toNat) (al 67 rfl hn) (wk67 dy) rfl rfl
        refine v_iconst 55 rfl ?_
        have c18 := h.1
        have h := h.2
        refine v_iast (N := 60) 56 rfl (al 61 rfl hn) (wk61 dy) (wn61 dy) (by decide) c18 (by decide) ?_
        refine v_iconst 57 rfl ?_
        exact v_ret (v := some (I_ 1)) 58 rfl (Nat.zero_le _) (Nat.zero_le _) (Or.inr rfl) rfl h
    · have h := h.2 q12
      refine v_aload_n 36 0 rfl rfl rfl ?_
      refine v_gK 37 rfl fl12_32_11.r (al 53 rfl hn) (wk53 dy) (by decide) rfl (r := 61) (wc53_10 dy) ?_
      refine v_aload_n 38 0 rfl rfl rfl ?_
      refine v_gK 39 rfl fl12_47_11.r (al 53 rfl hn) (wk53 dy) (by decide) rfl (r := 66) (wc53_15 dy) ?_
      refine v_iload_n 40 1 rfl rfl rfl ?_
      refine v_ia (N := 60) 41 rfl (al 66 rfl hn) (wk66 dy) (wn66 dy) (by decide) c5 (y := (up2 (up2 g 53 0 xs1) 66 x1.toNat (g 67 x1.toNat)) 66 x1.toNat) rfl ?_
      refine v_rng fun w19 => ?_
      have p20 : i3 ((up2 (up2 g 53 0 xs1) 66 x1.toNat (g 67 x1.toNat)) 66 x1.toNat) := rI w19 (q := x1.toNat) (al 66 rfl hn) (wk66 dy) rfl rfl
      refine v_iconst 42 rfl ?_
      have c21 := h.1
      have h := h.2
      refine v_iast (N := 60) 43 rfl (al 61 rfl hn) (wk61 dy) (wn61 dy) (by decide) c21 (by decide) ?_
      refine v_aload_n 44 0 rfl rfl rfl ?_
      refine v_gK 45 rfl fl12_50_11.r (al 53 rfl hn) (wk53 dy) (by decide) rfl (r := 67) (wc53_16 dy) ?_
      refine v_iload_n 46 1 rfl rfl rfl ?_
      refine v_ia (N := 60) 47 rfl (al 67 rfl hn) (wk67 dy) (wn67 dy) (by decide) c5 (y := (up2 (up2 (up2 g 53 0 xs1) 66 x1.toNat (g 67 x1.toNat)) 67 x1.toNat (g 66 x1.toNat)) 67 x1.toNat) rfl ?_
      refine v_rng fun w22 => ?_
      have p23 : i3 ((up2 (up2 (up2 g 53 0 xs1) 66 x1.toNat (g 67 x1.toNat)) 67 x1.toNat (g 66 x1.toNat)) 67 x1.toNat) := rI w22 (q := x1.toNat) (al 67 rfl hn) (wk67 dy) rfl rfl
      refine v_if_lt 48 rfl (tgt := 91) rfl p23 (fun q24 => ?_) (fun q24 => ?_)
      · have h := h.1 q24
        refine v_iconst 57 rfl ?_
        exact v_ret (v := some (I_ 1)) 58 rfl (Nat.zero_le _) (Nat.zero_le _) (Or.inr rfl) rfl h
      · have h := h.2 q24
        refine v_aload_n 49 0 rfl rfl rfl ?_
        refine v_gK 50 rfl fl12_32_11.r (al 53 rfl hn) (wk53 dy) (by decide) rfl (r := 61) (wc53_10 dy) ?_
        refine v_aload_n 51 0 rfl rfl rfl ?_
        refine v_gK 52 rfl fl12_50_11.r (al 53 rfl hn) (wk53 dy) (by decide) rfl (r := 67) (wc53_16 dy) ?_
        refine v_iload_n 53 1 rfl rfl rfl ?_
        refine v_ia (N := 60) 54 rfl (al 67 rfl hn) (wk67 dy) (wn67 dy) (by decide) c5 (y := (up2 (up2 (up2 g 53 0 xs1) 66 x1.toNat (g 67 x1.toNat)) 67 x1.toNat (g 66 x1.toNat)) 67 x1.toNat) rfl ?_
        refine v_rng fun w25 => ?_
        have p26 : i3 ((up2 (up2 (up2 g 53 0 xs1) 66 x1.toNat (g 67 x1.toNat)) 67 x1.toNat (g 66 x1.toNat)) 67 x1.toNat) := rI w25 (q := x1.toNat) (al 67 rfl hn) (wk67 dy) rfl rfl
        refine v_iconst 55 rfl ?_
        have c27 := h.1
        have h := h.2
        refine v_iast (N := 60) 56 rfl (al 61 rfl hn) (wk61 dy) (wn61 dy) (by decide) c27 (by decide) ?_
        refine v_iconst 57 rfl ?_
        exact v_ret (v := some (I_ 1)) 58 rfl (Nat.zero_le _) (Nat.zero_le _) (Or.inr rfl) rfl h
  · have h := h.2 q4
    refine v_iconst 11 rfl ?_
    exact v_ret (v := some (I_ 0)) 12 rfl (Nat.zero_le _) (Nat.zero_le _) (Or.inl rfl) rfl h
theorem wX12_swap {d n : Nat} {dy : Nat → Shp} {g : Hp} {P : Pst} {x1 : Int} (hn : 100 ≤ n) (h : Runs miX12_rodded d [.ref 53, I_ x1] n (W0 dy) (up2 g 53 1 0) (fun v n' S' g' => V miX12_swap (d + 1) 11 [(0, .ref 53), (1, I_ x1)] (v.toList ++ [.ref 53]) n' S' g' 0 0 P)) : Runs miX12_swap (d + 1) [.ref 53, I_ x1] n (W0 dy) g P := Runs.of rfl rfl deX12_swap (Nat.le_of_ble_eq_true rfl) (bX12_swap_0 hn h)
theorem fl12_65_11 : FL RX12 65 11 21 true (.array .int) := ⟨RX12, TX12, 58, "MobileMakerModel", rfl, rfl, by decide, kf11, tbG_in (List.mem_append_right _ (List.mem_of_getElem? (i := 1148) (by decide +kernel))) rfl, Or.inl rfl, rfl, by decide +kernel, ⟨tyX12, tyX12_ok⟩, nmX12, fun _ => rfl⟩
theorem fl12_62_11 : FL RX12 62 11 20 true (.array .int) := ⟨RX12, TX12, 58, "MobileMakerModel", rfl, rfl, by decide, kf11, tbG_in (List.mem_append_right _ (List.mem_of_getElem? (i := 1147) (by decide +kernel))) rfl, Or.inl rfl, rfl, by decide +kernel, ⟨tyX12, tyX12_ok⟩, nmX12, fun _ => rfl⟩
set_option maxHeartbeats 8000000 in
set_option maxRecDepth 4000 in
theorem bX12_orders_0 {d n : Nat} {dy : Nat → Shp} {g : Hp} {P : Pst}  (hn : 100 ≤ n) (h : V miX12_orders d 2 [(0, .ref 53), (1, I_ 0)] [] n (W0 dy) g 0 0 P) : V miX12_orders d 0 [(0, .ref 53)] [] n (W0 dy) g 0 0 P := by
  refine v_iconst 0 rfl ?_
  refine v_istore_n 1 [1, 0] rfl rfl (by decide) rfl ?_
  exact h
set_option maxHeartbeats 8000000 in
set_option maxRecDepth 4000 in
theorem bX12_orders_2 {d n : Nat} {dy : Nat → Shp} {g : Hp} {P : Pst} {x1 : Int} (hn : 100 ≤ n) (h : (i3 x1) ∧ (((g 53 5) ≤ x1) → V miX12_orders d 59 [(0, .ref 53), (1, I_ 0), (2, I_ 60)] [] n (W0 dy) g 0 0 P) ∧ ((x1 < (g 53 5)) → (0 ≤ x1 ∧ x1 < 60) ∧ V miX12_orders d 19 [(0, .ref 53), (1, I_ x1), (2, I_ x1)] [] n (W0 dy) (up2 g 72 x1.toNat 0) 0 0 P)) : V miX12_orders d 2 [(0, .ref 53), (1, I_ x1)] [] n (W0 dy) g 0 0 P := by
  refine v_iload_n 2 1 rfl rfl rfl ?_
  refine v_aload_n 3 0 rfl rfl rfl ?_
  refine v_gI 4 rfl fl12_169_11.r (al 53 rfl hn) (wk53 dy) (by decide) rfl (wc53_5 dy) (x := g 53 5) rfl ?_
  refine v_rng fun w1 => ?_
  have p2 : i3 (g 53 5) := rI w1 (q := 5) (al 53 rfl hn) (wk53 dy) rfl rfl
  have c3 := h.1
  have h := h.2
  refine v_icmp_ge 5 rfl (tgt := 54) rfl c3 p2 (fun q4 => ?_) (fun q4 => ?_)
  · have h := h.1 q4
    refine v_iconst 34 rfl ?_
    refine v_istore_n 35 [1, 0] rfl rfl (by decide) rfl ?_
    refine v_bipush 36 rfl (by decide) ?_
    refine v_istore_n 37 [1, 2, 0] rfl rfl (by decide) rfl ?_
    exact h
  · have h := h.2 q4
    refine v_aload_n 6 0 rfl rfl rfl ?_
    refine v_gK 7 rfl fl12_65_11.r (al 53 rfl hn) (wk53 dy) (by decide) rfl (r := 72) (wc53_21 dy) ?_
    refine v_iload_n 8 1 rfl rfl rfl ?_
    refine v_iconst 9 rfl ?_
    have c5 := h.1
    have h := h.2
    refine v_iast (N := 60) 10 rfl (al 72 rfl hn) (wk72 dy) (wn72 dy) (by decide) c5 (by decide) ?_
    refine v_iload_n 11 1 rfl rfl rfl ?_
    refine v_istore_n 12 [1, 2, 0] rfl rfl (by decide) rfl ?_
    exact h
set_option maxHeartbeats 8000000 in
set_option maxRecDepth 4000 in
theorem bX12_orders_19 {d n : Nat} {dy : Nat → Shp} {g : Hp} {P : Pst} {x1 : Int} {x2 : Int} (hn : 100 ≤ n) (h : (0 ≤ x2 ∧ x2 < 60) ∧ (((g 60 x2.toNat) < 0) → V miX12_orders d 2 [(0, .ref 53), (1, I_ (x1 + 1))] [] n (W0 dy) g 0 0 P) ∧ ((0 ≤ (g 60 x2.toNat)) → (0 ≤ x1 ∧ x1 < 60) ∧ (i3 ((g 72 x1.toNat) + 1)) ∧ V miX12_orders d 19 [(0, .ref 53), (1, I_ x1), (2, I_ (g 60 x2.toNat))] [] n (W0 dy) (up2 g 72 x1.toNat ((g 72 x1.toNat) + 1)) 0 0 P)) : V miX12_orders d 19 [(0, .ref 53), (1, I_ x1), (2, I_ x2)] [] n (W0 dy) g 0 0 P := by
  refine v_aload_n 13 0 rfl rfl rfl ?_
  refine v_gK 14 rfl fl12_29_11.r (al 53 rfl hn) (wk53 dy) (by decide) rfl (r := 60) (wc53_9 dy) ?_
  refine v_iload_n 15 2 rfl rfl rfl ?_
  have c1 := h.1
  have h := h.2
  refine v_ia (N := 60) 16 rfl (al 60 rfl hn) (wk60 dy) (wn60 dy) (by decide) c1 (y := g 60 x2.toNat) rfl ?_
  refine v_rng fun w2 => ?_
  have p3 : i3 (g 60 x2.toNat) := rI w2 (q := x2.toNat) (al 60 rfl hn) (wk60 dy) rfl rfl
  refine v_if_lt 17 rfl (tgt := 48) rfl p3 (fun q4 => ?_) (fun q4 => ?_)
  · have h := h.1 q4
    refine v_iinc 32 1 [1, 0, 2] rfl rfl (by decide) rfl ?_
    refine v_goto 33 rfl (tgt := 2) rfl ?_
    refine v_loc [0, 1] rfl ?_
    exact h
  · have h := h.2 q4
    refine v_aload_n 18 0 rfl rfl rfl ?_
    refine v_gK 19 rfl fl12_65_11.r (al 53 rfl hn) (wk53 dy) (by decide) rfl (r := 72) (wc53_21 dy) ?_
    refine v_iload_n 20 1 rfl rfl rfl ?_
    refine v_dup2 21 rfl (by intro h; cases h) (by intro h; cases h) ?_
    have c5 := h.1
    have h := h.2
    refine v_ia (N := 60) 22 rfl (al 72 rfl hn) (wk72 dy) (wn72 dy) (by decide) c5 (y := g 72 x1.toNat) rfl ?_
    refine v_rng fun w6 => ?_
    have p7 : i3 (g 72 x1.toNat) := rI w6 (q := x1.toNat) (al 72 rfl hn) (wk72 dy) rfl rfl
    refine v_iconst 23 rfl ?_
    refine v_iadd 24 rfl ?_
    have c8 := h.1
    have h := h.2
    refine v_iast (N := 60) 25 rfl (al 72 rfl hn) (wk72 dy) (wn72 dy) (by decide) c5 c8 ?_
    refine v_aload_n 26 0 rfl rfl rfl ?_
    refine v_gK 27 rfl fl12_29_11.r (al 53 rfl hn) (wk53 dy) (by decide) rfl (r := 60) (wc53_9 dy) ?_
    refine v_iload_n 28 2 rfl rfl rfl ?_
    refine v_ia (N := 60) 29 rfl (al 60 rfl hn) (wk60 dy) (wn60 dy) (by decide) c1 (y := g 60 x2.toNat) rfl ?_
    refine v_rng fun w9 => ?_
    have p10 : i3 (g 60 x2.toNat) := rI w9 (q := x2.toNat) (al 60 rfl hn) (wk60 dy) rfl rfl
    refine v_istore_n 30 [1, 2, 0] rfl rfl (by decide) rfl ?_
    refine v_goto 31 rfl (tgt := 19) rfl ?_
    exact h
set_option maxHeartbeats 8000000 in
set_option maxRecDepth 4000 in
theorem bX12_orders_59 {d n : Nat} {dy : Nat → Shp} {g : Hp} {P : Pst} {x1 : Int} {x2 : Int} (hn : 100 ≤ n) (h : (i3 x2) ∧ ((x2 < 0) → P none n (W0 dy) g) ∧ ((0 ≤ x2) → V miX12_orders d 65 [(0, .ref 53), (1, I_ x1), (2, I_ x2), (3, I_ 0)] [] n (W0 dy) g 0 0 P)) : V miX12_orders d 59 [(0, .ref 53), (1, I_ x1), (2, I_ x2)] [] n (W0 dy) g 0 0 P := by
  refine v_iload_n 38 2 rfl rfl rfl ?_
  have c1 := h.1
  have h := h.2
  refine v_if_lt 39 rfl (tgt := 108) rfl c1 (fun q2 => ?_) (fun q2 => ?_)
  · have h := h.1 q2
    exact v_ret (v := none) 63 rfl (Nat.zero_le _) (Nat.zero_le _) trivial rfl h
  · have h := h.2 q2
    refine v_iconst 40 rfl ?_
    refine v_istore_n 41 [1, 2, 3, 0] rfl rfl (by decide) rfl ?_
    exact h
set_option maxHeartbeats 8000000 in
set_option maxRecDepth 4000 in
theorem bX12_orders_65 {d n : Nat} {dy : Nat → Shp} {g : Hp} {P : Pst} {x1 : Int} {x2 : Int} {x3 : Int} (hn : 100 ≤ n) (h : (i3 x3) ∧ (((g 53 5) ≤ x3) → V miX12_orders d 59 [(0, .ref 53), (1, I_ x1), (2, I_ (x2 + (-1)))] [] n (W0 dy) g 0 0 P) ∧ ((x3 < (g 53 5)) → (0 ≤ x3 ∧ x3 < 60) ∧ (i3 x2) ∧ (((g 72 x3.toNat) = x2) → (0 ≤ x1 ∧ x1 < 60) ∧ V miX12_orders d 65 [(0, .ref 53), (1, I_ (x1 + 1)), (2, I_ x2), (3, I_ (x3 + 1))] [] n (W0 dy) (up2 g 71 x1.toNat x3) 0 0 P) ∧ (((g 72 x3.toNat) ≠ x2) → V miX12_orders d 65 [(0, .ref 53), (1, I_ x1), (2, I_ x2), (3, I_ (x3 + 1))] [] n (W0 dy) g 0 0 P))) : V miX12_orders d 65 [(0, .ref 53), (1, I_ x1), (2, I_ x2), (3, I_ x3)] [] n (W0 dy) g 0 0 P := by
  refine v_iload_n 42 3 rfl rfl rfl ?_
  refine v_aload_n 43 0 rfl rfl rfl ?_
  refine v_gI 44 rfl fl12_169_11.r (al 53 rfl hn) (wk53 dy) (by decide) rfl (wc53_5 dy) (x := g 53 5) rfl ?_
  refine v_rng fun w1 => ?_
  have p2 : i3 (g 53 5) := rI w1 (q := 5) (al 53 rfl hn) (wk53 dy) rfl rfl
  have c3 := h.1
  have h := h.2
  refine v_icmp_ge 45 rfl (tgt := 102) rfl c3 p2 (fun q4 => ?_) (fun q4 => ?_)
  · have h := h.1 q4
    refine v_iinc 61 2 [1, 2, 0, 3] rfl rfl (by decide) rfl ?_
    refine v_goto 62 rfl (tgt := 59) rfl ?_
    refine v_loc [0, 1, 2] rfl ?_
    exact h
  · have h := h.2 q4
    refine v_aload_n 46 0 rfl rfl rfl ?_
    refine v_gK 47 rfl fl12_65_11.r (al 53 rfl hn) (wk53 dy) (by decide) rfl (r := 72) (wc53_21 dy) ?_
    refine v_iload_n 48 3 rfl rfl rfl ?_
    have c5 := h.1
    have h := h.2
    refine v_ia (N := 60) 49 rfl (al 72 rfl hn) (wk72 dy) (wn72 dy) (by decide) c5 (y := g 72 x3.toNat) rfl ?_
    refine v_rng fun w6 => ?_
    have p7 : i3 (g 72 x3.toNat) := rI w6 (q := x3.toNat) (al 72 rfl hn) (wk72 dy) rfl rfl
    refine v_iload_n 50 2 rfl rfl rfl ?_
    have c8 := h.1
    have h := h.2
    refine v_icmp_eq 51 rfl (tgt := 86) rfl p7 c8 (fun q9 => ?_) (fun q9 => ?_)
    · have h := h.1 q9
      refine v_aload_n 53 0 rfl rfl rfl ?_
      refine v_gK 54 rfl fl12_62_11.r (al 53 rfl hn) (wk53 dy) (by decide) rfl (r := 71) (wc53_20 dy) ?_
      refine v_iload_n 55 1 rfl rfl rfl ?_
      refine v_iload_n 56 3 rfl rfl rfl ?_
      have c10 := h.1
      have h := h.2
      refine v_iast (N := 60) 57 rfl (al 71 rfl hn) (wk71 dy) (wn71 dy) (by decide) c10 c3 ?_
      refine v_iinc 58 1 [1, 0, 2, 3] rfl rfl (by decide) rfl ?_
      refine v_iinc 59 3 [1, 2, 3, 0] rfl rfl (by decide) rfl ?_
      refine v_goto 60 rfl (tgt := 65) rfl ?_
      exact h
    · have h := h.2 q9
      refine v_goto 52 rfl (tgt := 96) rfl ?_
      refine v_iinc 59 3 [1, 2, 3, 0] rfl rfl (by decide) rfl ?_
      refine v_goto 60 rfl (tgt := 65) rfl ?_
      exact h
theorem wX12_orders {d n : Nat} {dy : Nat → Shp} {g : Hp} {P : Pst}  (hn : 100 ≤ n) (h : V miX12_orders d 2 [(0, .ref 53), (1, I_ 0)] [] n (W0 dy) g 0 0 P) : Runs miX12_orders d [.ref 53] n (W0 dy) g P := Runs.of rfl rfl deX12_orders (Nat.le_of_ble_eq_true rfl) (bX12_orders_0 hn h)
theorem fl12_71_11 : FL RX12 71 11 23 true (.array .long) := ⟨RX12, TX12, 58, "MobileMakerModel", rfl, rfl, by decide, kf11, tbG_in (List.mem_append_right _ (List.mem_of_getElem? (i := 1150) (by decide +kernel))) rfl, Or.inl rfl, rfl, by decide +kernel, ⟨tyX12, tyX12_ok⟩, nmX12, fun _ => rfl⟩
theorem fl12_78_11 : FL RX12 78 11 25 true (.array .boolean) := ⟨RX12, TX12, 58, "MobileMakerModel", rfl, rfl, by decide, kf11, tbG_in (List.mem_append_right _ (List.mem_of_getElem? (i := 1152) (by decide +kernel))) rfl, Or.inl rfl, rfl, by decide +kernel, ⟨tyX12, tyX12_ok⟩, nmX12, fun _ => rfl⟩
set_option maxHeartbeats 8000000 in
set_option maxRecDepth 4000 in
theorem bX12_loads_0 {d n : Nat} {dy : Nat → Shp} {g : Hp} {P : Pst}  (hn : 100 ≤ n) (h : V miX12_loads d 2 [(0, .ref 53), (1, I_ 0)] [] n (W0 dy) g 0 0 P) : V miX12_loads d 0 [(0, .ref 53)] [] n (W0 dy) g 0 0 P := by
  refine v_iconst 0 rfl ?_
  refine v_istore_n 1 [1, 0] rfl rfl (by decide) rfl ?_
  exact h
set_option maxHeartbeats 8000000 in
set_option maxRecDepth 4000 in
theorem bX12_loads_2 {d n : Nat} {dy : Nat → Shp} {g : Hp} {P : Pst} {x1 : Int} (hn : 100 ≤ n) (h : (i3 x1) ∧ (((g 53 5) ≤ x1) → P none n (W0 dy) g) ∧ ((x1 < (g 53 5)) → (0 ≤ x1 ∧ x1 < 60) ∧ (0 ≤ g 71 x1.toNat ∧ g 71 x1.toNat < 60) ∧ (((g 76 ((g 71 x1.toNat).toNat)) = 0) → (((g 66 ((g 71 x1.toNat).toNat)) < 0) → (((g 67 ((g 71 x1.toNat).toNat)) < 0) → V miX12_loads d 2 [(0, .ref 53), (1, I_ (x1 + 1))] [] n (W0 dy) (up2 g 74 ((g 71 x1.toNat).toNat) (g 63 ((g 71 x1.toNat).toNat))) 0 0 P) ∧ ((0 ≤ (g 67 ((g 71 x1.toNat).toNat))) → (0 ≤ g 67 ((g 71 x1.toNat).toNat) ∧ g 67 ((g 71 x1.toNat).toNat) < 60) ∧ ∀ y27 : Int, y27 = ((up2 g 74 ((g 71 x1.toNat).toNat) (g 63 ((g 71 x1.toNat).toNat))) 74 ((g 71 x1.toNat).toNat)) + ((up2 g 74 ((g 71 x1.toNat).toNat) (g 63 ((g 71 x1.toNat).toNat))) 74 ((g 67 ((g 71 x1.toNat).toNat)).toNat)) → (i6 y27) ∧ V miX12_loads d 2 [(0, .ref 53), (1, I_ (x1 + 1))] [] n (W0 dy) (up2 (up2 g 74 ((g 71 x1.toNat).toNat) (g 63 ((g 71 x1.toNat).toNat))) 74 ((g 71 x1.toNat).toNat) y27) 0 0 P)) ∧ ((0 ≤ (g 66 ((g 71 x1.toNat).toNat))) → (0 ≤ g 66 ((g 71 x1.toNat).toNat) ∧ g 66 ((g 71 x1.toNat).toNat) < 60) ∧ ∀ y36 : Int, y36 = ((up2 g 74 ((g 71 x1.toNat).toNat) (g 63 ((g 71 x1.toNat).toNat))) 74 ((g 71 x1.toNat).toNat)) + ((up2 g 74 ((g 71 x1.toNat).toNat) (g 63 ((g 71 x1.toNat).toNat))) 74 ((g 66 ((g 71 x1.toNat).toNat)).toNat)) → (i6 y36) ∧ (((g 67 ((g 71 x1.toNat).toNat)) < 0) → V miX12_loads d 2 [(0, .ref 53), (1, I_ (x1 + 1))] [] n (W0 dy) (up2 (up2 g 74 ((g 71 x1.toNat).toNat) (g 63 ((g 71 x1.toNat).toNat))) 74 ((g 71 x1.toNat).toNat) y36) 0 0 P) ∧ ((0 ≤ (g 67 ((g 71 x1.toNat).toNat))) → (0 ≤ g 67 ((g 71 x1.toNat).toNat) ∧ g 67 ((g 71 x1.toNat).toNat) < 60) ∧ ∀ y48 : Int, y48 = ((up2 (up2 g 74 ((g 71 x1.toNat).toNat) (g 63 ((g 71 x1.toNat).toNat))) 74 ((g 71 x1.toNat).toNat) y36) 74 ((g 71 x1.toNat).toNat)) + ((up2 (up2 g 74 ((g 71 x1.toNat).toNat) (g 63 ((g 71 x1.toNat).toNat))) 74 ((g 71 x1.toNat).toNat) y36) 74 ((g 67 ((g 71 x1.toNat).toNat)).toNat)) → (i6 y48) ∧ V miX12_loads d 2 [(0, .ref 53), (1, I_ (x1 + 1))] [] n (W0 dy) (up2 (up2 (up2 g 74 ((g 71 x1.toNat).toNat) (g 63 ((g 71 x1.toNat).toNat))) 74 ((g 71 x1.toNat).toNat) y36) 74 ((g 71 x1.toNat).toNat) y48) 0 0 P))) ∧ (((g 76 ((g 71 x1.toNat).toNat)) ≠ 0) → (((g 66 ((g 71 x1.toNat).toNat)) < 0) → (((g 67 ((g 71 x1.toNat).toNat)) < 0) → V miX12_loads d 2 [(0, .ref 53), (1, I_ (x1 + 1))] [] n (W0 dy) (up2 g 74 ((g 71 x1.toNat).toNat) 0) 0 0 P) ∧ ((0 ≤ (g 67 ((g 71 x1.toNat).toNat))) → (0 ≤ g 67 ((g 71 x1.toNat).toNat) ∧ g 67 ((g 71 x1.toNat).toNat) < 60) ∧ ∀ y63 : Int, y63 = ((up2 g 74 ((g 71 x1.toNat).toNat) 0) 74 ((g 71 x1.toNat).toNat)) + ((up2 g 74 ((g 71 x1.toNat).toNat) 0) 74 ((g 67 ((g 71 x1.toNat).toNat)).toNat)) → (i6 y63) ∧ V miX12_loads d 2 [(0, .ref 53), (1, I_ (x1 + 1))] [] n (W0 dy) (up2 (up2 g 74 ((g 71 x1.toNat).toNat) 0) 74 ((g 71 x1.toNat).toNat) y63) 0 0 P)) ∧ ((0 ≤ (g 66 ((g 71 x1.toNat).toNat))) → (0 ≤ g 66 ((g 71 x1.toNat).toNat) ∧ g 66 ((g 71 x1.toNat).toNat) < 60) ∧ ∀ y72 : Int, y72 = ((up2 g 74 ((g 71 x1.toNat).toNat) 0) 74 ((g 71 x1.toNat).toNat)) + ((up2 g 74 ((g 71 x1.toNat).toNat) 0) 74 ((g 66 ((g 71 x1.toNat).toNat)).toNat)) → (i6 y72) ∧ (((g 67 ((g 71 x1.toNat).toNat)) < 0) → V miX12_loads d 2 [(0, .ref 53), (1, I_ (x1 + 1))] [] n (W0 dy) (up2 (up2 g 74 ((g 71 x1.toNat).toNat) 0) 74 ((g 71 x1.toNat).toNat) y72) 0 0 P) ∧ ((0 ≤ (g 67 ((g 71 x1.toNat).toNat))) → (0 ≤ g 67 ((g 71 x1.toNat).toNat) ∧ g 67 ((g 71 x1.toNat).toNat) < 60) ∧ ∀ y84 : Int, y84 = ((up2 (up2 g 74 ((g 71 x1.toNat).toNat) 0) 74 ((g 71 x1.toNat).toNat) y72) 74 ((g 71 x1.toNat).toNat)) + ((up2 (up2 g 74 ((g 71 x1.toNat).toNat) 0) 74 ((g 71 x1.toNat).toNat) y72) 74 ((g 67 ((g 71 x1.toNat).toNat)).toNat)) → (i6 y84) ∧ V miX12_loads d 2 [(0, .ref 53), (1, I_ (x1 + 1))] [] n (W0 dy) (up2 (up2 (up2 g 74 ((g 71 x1.toNat).toNat) 0) 74 ((g 71 x1.toNat).toNat) y72) 74 ((g 71 x1.toNat).toNat) y84) 0 0 P))))) : V miX12_loads d 2 [(0, .ref 53), (1, I_ x1)] [] n (W0 dy) g 0 0 P := by
  refine v_iload_n 2 1 rfl rfl rfl ?_
  refine v_aload_n 3 0 rfl rfl rfl ?_
  refine v_gI 4 rfl fl12_169_11.r (al 53 rfl hn) (wk53 dy) (by decide) rfl (wc53_5 dy) (x := g 53 5) rfl ?_
  refine v_rng fun w1 => ?_
  have p2 : i3 (g 53 5) := rI w1 (q := 5) (al 53 rfl hn) (wk53 dy) rfl rfl
  have c3 := h.1
  have h := h.2
  refine v_icmp_ge 5 rfl (tgt := 106) rfl c3 p2 (fun q4 => ?_) (fun q4 => ?_)
  · have h := h.1 q4
    exact v_ret (v := none) 66 rfl (Nat.zero_le _) (Nat.zero_le _) trivial rfl h
  · have h := h.2 q4
    refine v_aload_n 6 0 rfl rfl rfl ?_
    refine v_gK 7 rfl fl12_62_11.r (al 53 rfl hn) (wk53 dy) (by decide) rfl (r := 71) (wc53_20 dy) ?_
    refine v_iload_n 8 1 rfl rfl rfl ?_
    have c5 := h.1
    have h := h.2
    refine v_ia (N := 60) 9 rfl (al 71 rfl hn) (wk71 dy) (wn71 dy) (by decide) c5 (y := g 71 x1.toNat) rfl ?_
    refine v_rng fun w6 => ?_
    have p7 : i3 (g 71 x1.toNat) := rI w6 (q := x1.toNat) (al 71 rfl hn) (wk71 dy) rfl rfl
    refine v_istore_n 10 [1, 2, 0] rfl rfl (by decide) rfl ?_
    refine v_aload_n 11 0 rfl rfl rfl ?_
    refine v_gK 12 rfl fl12_71_11.r (al 53 rfl hn) (wk53 dy) (by decide) rfl (r := 74) (wc53_23 dy) ?_
    refine v_iload_n 13 2 rfl rfl rfl ?_
    refine v_aload_n 14 0 rfl rfl rfl ?_
    refine v_gK 15 rfl fl12_78_11.r (al 53 rfl hn) (wk53 dy) (by decide) rfl (r := 76) (wc53_25 dy) ?_
    refine v_iload_n 16 2 rfl rfl rfl ?_
    have c8 := h.1
    have h := h.2
    refine v_za (N := 60) 17 rfl (al 76 rfl hn) (wk76 dy) (wn76 dy) (by decide) c8 (y := g 76 ((g 71 x1.toNat).toNat)) rfl ?_
    refine v_rng fun w9 => ?_
    have p10 : i3 (g 76 ((g 71 x1.toNat).toNat)) := rI w9 (q := ((g 71 x1.toNat).toNat)) (al 76 rfl hn) (wk76 dy) rfl rfl
    refine v_if_eq 18 rfl (tgt := 35) rfl p10 (fun q11 => ?_) (fun q11 => ?_)
    · have h := h.1 q11
      refine v_aload_n 21 0 rfl rfl rfl ?_
      refine v_gK 22 rfl fl12_38_11.r (al 53 rfl hn) (wk53 dy) (by decide) rfl (r := 63) (wc53_12 dy) ?_
      refine v_iload_n 23 2 rfl rfl rfl ?_
      refine v_la (N := 60) 24 rfl (al 63 rfl hn) (wk63 dy) (wn63 dy) (by decide) c8 (y := g 63 ((g 71 x1.toNat).toNat)) rfl ?_
      refine v_rng fun w12 => ?_
      have p13 : i6 (g 63 ((g 71 x1.toNat).toNat)) := rL w12 (q := ((g 71 x1.toNat).toNat)) (al 63 rfl hn) (wk63 dy) rfl rfl
      refine v_last (N := 60) 25 rfl (al 74 rfl hn) (wk74 dy) (wn74 dy) (by decide) c8 p13 ?_
      refine v_aload_n 26 0 rfl rfl rfl ?_
      refine v_gK 27 rfl fl12_47_11.r (al 53 rfl hn) (wk53 dy) (by decide) rfl (r := 66) (wc53_15 dy) ?_
      refine v_iload_n 28 2 rfl rfl rfl ?_
      refine v_ia (N := 60) 29 rfl (al 66 rfl hn) (wk66 dy) (wn66 dy) (by decide) c8 (y := g 66 ((g 71 x1.toNat).toNat)) rfl ?_
      refine v_rng fun w14 => ?_
      have p15 : i3 (g 66 ((g 71 x1.toNat).toNat)) := rI w14 (q := ((g 71 x1.toNat).toNat)) (al 66 rfl hn) (wk66 dy) rfl rfl
      refine v_if_lt 30 rfl (tgt := 71) rfl p15 (fun q16 => ?_) (fun q16 => ?_)
      · have h := h.1 q16
        refine v_aload_n 45 0 rfl rfl rfl ?_
        refine v_gK 46 rfl fl12_50_11.r (al 53 rfl hn) (wk53 dy) (by decide) rfl (r := 67) (wc53_16 dy) ?_
        refine v_iload_n 47 2 rfl rfl rfl ?_
        refine v_ia (N := 60) 48 rfl (al 67 rfl hn) (wk67 dy) (wn67 dy) (by decide) c8 (y := g 67 ((g 71 x1.toNat).toNat)) rfl ?_
        refine v_rng fun w17 => ?_
        have p18 : i3 (g 67 ((g 71 x1.toNat).toNat)) := rI w17 (q := ((g 71 x1.toNat).toNat)) (al 67 rfl hn) (wk67 dy) rfl rfl
        refine v_if_lt 49 rfl (tgt := 100) rfl p18 (fun q19 => ?_) (fun q19 => ?_)
        · have h := h.1 q19
          refine v_iinc 64 1 [1, 0, 2] rfl rfl (by decide) rfl ?_
          refine v_goto 65 rfl (tgt := 2) rfl ?_
          refine v_loc [0, 1] rfl ?_
          exact h
        · have h := h.2 q19
          refine v_aload_n 50 0 rfl rfl rfl ?_
          refine v_gK 51 rfl fl12_71_11.r (al 53 rfl hn) (wk53 dy) (by decide) rfl (r := 74) (wc53_23 dy) ?_
          refine v_iload_n 52 2 rfl rfl rfl ?_
          refine v_dup2 53 rfl (by intro h; cases h) (by intro h; cases h) ?_
          refine v_la (N := 60) 54 rfl (al 74 rfl hn) (wk74 dy) (wn74 dy) (by decide) c8 (y := (up2 g 74 ((g 71 x1.toNat).toNat) (g 63 ((g 71 x1.toNat).toNat))) 74 ((g 71 x1.toNat).toNat)) rfl ?_
          refine v_rng fun w20 => ?_
          have p21 : i6 ((up2 g 74 ((g 71 x1.toNat).toNat) (g 63 ((g 71 x1.toNat).toNat))) 74 ((g 71 x1.toNat).toNat)) := rL w20 (q := ((g 71 x1.toNat).toNat)) (al 74 rfl hn) (wk74 dy) rfl rfl
          refine v_aload_n 55 0 rfl rfl rfl ?_
          refine v_gK 56 rfl fl12_71_11.r (al 53 rfl hn) (wk53 dy) (by decide) rfl (r := 74) (wc53_23 dy) ?_
          refine v_aload_n 57 0 rfl rfl rfl ?_
          refine v_gK 58 rfl fl12_50_11.r (al 53 rfl hn) (wk53 dy) (by decide) rfl (r := 67) (wc53_16 dy) ?_
          refine v_iload_n 59 2 rfl rfl rfl ?_
          refine v_ia (N := 60) 60 rfl (al 67 rfl hn) (wk67 dy) (wn67 dy) (by decide) c8 (y := g 67 ((g 71 x1.toNat).toNat)) rfl ?_
          refine v_rng fun w22 => ?_
          have p23 : i3 (g 67 ((g 71 x1.toNat).toNat)) := rI w22 (q := ((g 71 x1.toNat).toNat)) (al 67 rfl hn) (wk67 dy) rfl rfl
          have c24 := h.1
          have h := h.2
          refine v_la (N := 60) 61 rfl (al 74 rfl hn) (wk74 dy) (wn74 dy) (by decide) c24 (y := (up2 g 74 ((g 71 x1.toNat).toNat) (g 63 ((g 71 x1.toNat).toNat))) 74 ((g 67 ((g 71 x1.toNat).toNat)).toNat)) rfl ?_
          refine v_rng fun w25 => ?_
          have p26 : i6 ((up2 g 74 ((g 71 x1.toNat).toNat) (g 63 ((g 71 x1.toNat).toNat))) 74 ((g 67 ((g 71 x1.toNat).toNat)).toNat)) := rL w25 (q := ((g 67 ((g 71 x1.toNat).toNat)).toNat)) (al 74 rfl hn) (wk74 dy) rfl rfl
          refine v_ladd 62 rfl ?_
          refine v_nmL (fun y27 ey27 => ?_)
          have h := h y27 ey27
          have c28 := h.1
          have h := h.2
          refine v_last (N := 60) 63 rfl (al 74 rfl hn) (wk74 dy) (wn74 dy) (by decide) c8 c28 ?_
          refine v_iinc 64 1 [1, 0, 2] rfl rfl (by decide) rfl ?_
          refine v_goto 65 rfl (tgt := 2) rfl ?_
          refine v_loc [0, 1] rfl ?_
          exact h
      · have h := h.2 q16
        refine v_aload_n 31 0 rfl rfl rfl ?_
        refine v_gK 32 rfl fl12_71_11.r (al 53 rfl hn) (wk53 dy) (by decide) rfl (r := 74) (wc53_23 dy) ?_
        refine v_iload_n 33 2 rfl rfl rfl ?_
        refine v_dup2 34 rfl (by intro h; cases h) (by intro h; cases h) ?_
        refine v_la (N := 60) 35 rfl (al 74 rfl hn) (wk74 dy) (wn74 dy) (by decide) c8 (y := (up2 g 74 ((g 71 x1.toNat).toNat) (g 63 ((g 71 x1.toNat).toNat))) 74 ((g 71 x1.toNat).toNat)) rfl ?_
        refine v_rng fun w29 => ?_
        have p30 : i6 ((up2 g 74 ((g 71 x1.toNat).toNat) (g 63 ((g 71 x1.toNat).toNat))) 74 ((g 71 x1.toNat).toNat)) := rL w29 (q := ((g 71 x1.toNat).toNat)) (al 74 rfl hn) (wk74 dy) rfl rfl
        refine v_aload_n 36 0 rfl rfl rfl ?_
        refine v_gK 37 rfl fl12_71_11.r (al 53 rfl hn) (wk53 dy) (by decide) rfl (r := 74) (wc53_23 dy) ?_
        refine v_aload_n 38 0 rfl rfl rfl ?_
        refine v_gK 39 rfl fl12_47_11.r (al 53 rfl hn) (wk53 dy) (by decide) rfl (r := 66) (wc53_15 dy) ?_
        refine v_iload_n 40 2 rfl rfl rfl ?_
        refine v_ia (N := 60) 41 rfl (al 66 rfl hn) (wk66 dy) (wn66 dy) (by decide) c8 (y := g 66 ((g 71 x1.toNat).toNat)) rfl ?_
        refine v_rng fun w31 => ?_
        have p32 : i3 (g 66 ((g 71 x1.toNat).toNat)) := rI w31 (q := ((g 71 x1.toNat).toNat)) (al 66 rfl hn) (wk66 dy) rfl rfl
        have c33 := h.1
        have h := h.2
        refine v_la (N := 60) 42 rfl (al 74 rfl hn) (wk74 dy) (wn74 dy) (by decide) c33 (y := (up2 g 74 ((g 71 x1.toNat).toNat) (g 63 ((g 71 x1.toNat).toNat))) 74 ((g 66 ((g 71 x1.toNat).toNat)).toNat)) rfl ?_
        refine v_rng fun w34 => ?_
        have p35 : i6 ((up2 g 74 ((g 71 x1.toNat).toNat) (g 63 ((g 71 x1.toNat).toNat))) 74 ((g 66 ((g 71 x1.toNat).toNat)).toNat)) := rL w34 (q := ((g 66 ((g 71 x1.toNat).toNat)).toNat)) (al 74 rfl hn) (wk74 dy) rfl rfl
        refine v_ladd 43 rfl ?_
        refine v_nmL (fun y36 ey36 => ?_)
        have h := h y36 ey36
        have c37 := h.1
        have h := h.2
        refine v_last (N := 60) 44 rfl (al 74 rfl hn) (wk74 dy) (wn74 dy) (by decide) c8 c37 ?_
        refine v_aload_n 45 0 rfl rfl rfl ?_
        refine v_gK 46 rfl fl12_50_11.r (al 53 rfl hn) (wk53 dy) (by decide) rfl (r := 67) (wc53_16 dy) ?_
        refine v_iload_n 47 2 rfl rfl rfl ?_
        refine v_ia (N := 60) 48 rfl (al 67 rfl hn) (wk67 dy) (wn67 dy) (by decide) c8 (y := g 67 ((g 71 x1.toNat).toNat)) rfl ?_
        refine v_rng fun w38 => ?_
        have p39 : i3 (g 67 ((g 71 x1.toNat).toNat)) := rI w38 (q := ((g 71 x1.toNat).toNat)) (al 67 rfl hn) (wk67 dy) rfl rfl
        refine v_if_lt 49 rfl (tgt := 100) rfl p39 (fun q40 => ?_) (fun q40 => ?_)
        · have h := h.1 q40
          refine v_iinc 64 1 [1, 0, 2] rfl rfl (by decide) rfl ?_
          refine v_goto 65 rfl (tgt := 2) rfl ?_
          refine v_loc [0, 1] rfl ?_
          exact h
        · have h := h.2 q40
          refine v_aload_n 50 0 rfl rfl rfl ?_
          refine v_gK 51 rfl fl12_71_11.r (al 53 rfl hn) (wk53 dy) (by decide) rfl (r := 74) (wc53_23 dy) ?_
          refine v_iload_n 52 2 rfl rfl rfl ?_
          refine v_dup2 53 rfl (by intro h; cases h) (by intro h; cases h) ?_
          refine v_la (N := 60) 54 rfl (al 74 rfl hn) (wk74 dy) (wn74 dy) (by decide) c8 (y := (up2 (up2 g 74 ((g 71 x1.toNat).toNat) (g 63 ((g 71 x1.toNat).toNat))) 74 ((g 71 x1.toNat).toNat) y36) 74 ((g 71 x1.toNat).toNat)) rfl ?_
          refine v_rng fun w41 => ?_
          have p42 : i6 ((up2 (up2 g 74 ((g 71 x1.toNat).toNat) (g 63 ((g 71 x1.toNat).toNat))) 74 ((g 71 x1.toNat).toNat) y36) 74 ((g 71 x1.toNat).toNat)) := rL w41 (q := ((g 71 x1.toNat).toNat)) (al 74 rfl hn) (wk74 dy) rfl rfl
          refine v_aload_n 55 0 rfl rfl rfl ?_
          refine v_gK 56 rfl fl12_71_11.r (al 53 rfl hn) (wk53 dy) (by decide) rfl (r := 74) (wc53_23 dy) ?_
          refine v_aload_n 57 0 rfl rfl rfl ?_
          refine v_gK 58 rfl fl12_50_11.r (al 53 rfl hn) (wk53 dy) (by decide) rfl (r := 67) (wc53_16 dy) ?_
          refine v_iload_n 59 2 rfl rfl rfl ?_
          refine v_ia (N := 60) 60 rfl (al 67 rfl hn) (wk67 dy) (wn67 dy) (by decide) c8 (y := g 67 ((g 71 x1.toNat).toNat)) rfl ?_
          refine v_rng fun w43 => ?_
          have p44 : i3 (g 67 ((g 71 x1.toNat).toNat)) := rI w43 (q := ((g 71 x1.toNat).toNat)) (al 67 rfl hn) (wk67 dy) rfl rfl
          have c45 := h.1
          have h := h.2
          refine v_la (N := 60) 61 rfl (al 74 rfl hn) (wk74 dy) (wn74 dy) (by decide) c45 (y := (up2 (up2 g 74 ((g 71 x1.toNat).toNat) (g 63 ((g 71 x1.toNat).toNat))) 74 ((g 71 x1.toNat).toNat) y36) 74 ((g 67 ((g 71 x1.toNat).toNat)).toNat)) rfl ?_
          refine v_rng fun w46 => ?_
          have p47 : i6 ((up2 (up2 g 74 ((g 71 x1.toNat).toNat) (g 63 ((g 71 x1.toNat).toNat))) 74 ((g 71 x1.toNat).toNat) y36) 74 ((g 67 ((g 71 x1.toNat).toNat)).toNat)) := rL w46 (q := ((g 67 ((g 71 x1.toNat).toNat)).toNat)) (al 74 rfl hn) (wk74 dy) rfl rfl
          refine v_ladd 62 rfl ?_
          refine v_nmL (fun y48 ey48 => ?_)
          have h := h y48 ey48
          have c49 := h.1
          have h := h.2
          refine v_last (N := 60) 63 rfl (al 74 rfl hn) (wk74 dy) (wn74 dy) (by decide) c8 c49 ?_
          refine v_iinc 64 1 [1, 0, 2] rfl rfl (by decide) rfl ?_
          refine v_goto 65 rfl (tgt := 2) rfl ?_
          refine v_loc [0, 1] rfl ?_
          exact h
    · have h := h.2 q11
      refine v_lconst (v := 0) 19 rfl (by decide) ?_
      refine v_goto 20 rfl (tgt := 41) rfl ?_
      refine v_last (N := 60) 25 rfl (al 74 rfl hn) (wk74 dy) (wn74 dy) (by decide) c8 (by decide) ?_
      refine v_aload_n 26 0 rfl rfl rfl ?_
      refine v_gK 27 rfl fl12_47_11.r (al 53 rfl hn) (wk53 dy) (by decide) rfl (r := 66) (wc53_15 dy) ?_
      refine v_iload_n 28 2 rfl rfl rfl ?_
      refine v_ia (N := 60) 29 rfl (al 66 rfl hn) (wk66 dy) (wn66 dy) (by decide) c8 (y := g 66 ((g 71 x1.toNat).toNat)) rfl ?_
      refine v_rng fun w50 => ?_
      have p51 : i3 (g 66 ((g 71 x1.toNat).toNat)) := rI w50 (q := ((g 71 x1.toNat).toNat)) (al 66 rfl hn) (wk66 dy) rfl rfl
      refine v_if_lt 30 rfl (tgt := 71) rfl p51 (fun q52 => ?_) (fun q52 => ?_)
      · have h := h.1 q52
        refine v_aload_n 45 0 rfl rfl rfl ?_
        refine v_gK 46 rfl fl12_50_11.r (al 53 rfl hn) (wk53 dy) (by decide) rfl (r := 67) (wc53_16 dy) ?_
        refine v_iload_n 47 2 rfl rfl rfl ?_
        refine v_ia (N := 60) 48 rfl (al 67 rfl hn) (wk67 dy) (wn67 dy) (by decide) c8 (y := g 67 ((g 71 x1.toNat).toNat)) rfl ?_
        refine v_rng fun w53 => ?_
        have p54 : i3 (g 67 ((g 71 x1.toNat).toNat)) := rI w53 (q := ((g 71 x1.toNat).toNat)) (al 67 rfl hn) (wk67 dy) rfl rfl
        refine v_if_lt 49 rfl (tgt := 100) rfl p54 (fun q55 => ?_) (fun q55 => ?_)
        · have h := h.1 q55
          refine v_iinc 64 1 [1, 0, 2] rfl rfl (by decide) rfl ?_
          refine v_goto 65 rfl (tgt := 2) rfl ?_
          refine v_loc [0, 1] rfl ?_
          exact h
        · have h := h.2 q55
          refine v_aload_n 50 0 rfl rfl rfl ?_
          refine v_gK 51 rfl fl12_71_11.r (al 53 rfl hn) (wk53 dy) (by decide) rfl (r := 74) (wc53_23 dy) ?_
          refine v_iload_n 52 2 rfl rfl rfl ?_
          refine v_dup2 53 rfl (by intro h; cases h) (by intro h; cases h) ?_
          refine v_la (N := 60) 54 rfl (al 74 rfl hn) (wk74 dy) (wn74 dy) (by decide) c8 (y := (up2 g 74 ((g 71 x1.toNat).toNat) 0) 74 ((g 71 x1.toNat).toNat)) rfl ?_
          refine v_rng fun w56 => ?_
          have p57 : i6 ((up2 g 74 ((g 71 x1.toNat).toNat) 0) 74 ((g 71 x1.toNat).toNat)) := rL w56 (q := ((g 71 x1.toNat).toNat)) (al 74 rfl hn) (wk74 dy) rfl rfl
          refine v_aload_n 55 0 rfl rfl rfl ?_
          refine v_gK 56 rfl fl12_71_11.r (al 53 rfl hn) (wk53 dy) (by decide) rfl (r := 74) (wc53_23 dy) ?_
          refine v_aload_n 57 0 rfl rfl rfl ?_
          refine v_gK 58 rfl fl12_50_11.r (al 53 rfl hn) (wk53 dy) (by decide) rfl (r := 67) (wc53_16 dy) ?_
          refine v_iload_n 59 2 rfl rfl rfl ?_
          refine v_ia (N := 60) 60 rfl (al 67 rfl hn) (wk67 dy) (wn67 dy) (by decide) c8 (y := g 67 ((g 71 x1.toNat).toNat)) rfl ?_
          refine v_rng fun w58 => ?_
          have p59 : i3 (g 67 ((g 71 x1.toNat).toNat)) := rI w58 (q := ((g 71 x1.toNat).toNat)) (al 67 rfl hn) (wk67 dy) rfl rfl
          have c60 := h.1
          have h := h.2
          refine v_la (N := 60) 61 rfl (al 74 rfl hn) (wk74 dy) (wn74 dy) (by decide) c60 (y := (up2 g 74 ((g 71 x1.toNat).toNat) 0) 74 ((g 67 ((g 71 x1.toNat).toNat)).toNat)) rfl ?_
          refine v_rng fun w61 => ?_
          have p62 : i6 ((up2 g 74 ((g 71 x1.toNat).toNat) 0) 74 ((g 67 ((g 71 x1.toNat).toNat)).toNat)) := rL w61 (q := ((g 67 ((g 71 x1.toNat).toNat)).toNat)) (al 74 rfl hn) (wk74 dy) rfl rfl
          refine v_ladd 62 rfl ?_
          refine v_nmL (fun y63 ey63 => ?_)
          have h := h y63 ey63
          have c64 := h.1
          have h := h.2
          refine v_last (N := 60) 63 rfl (al 74 rfl hn) (wk74 dy) (wn74 dy) (by decide) c8 c64 ?_
          refine v_iinc 64 1 [1, 0, 2] rfl rfl (by decide) rfl ?_
          refine v_goto 65 rfl (tgt := 2) rfl ?_
          refine v_loc [0, 1] rfl ?_
          exact h
      · have h := h.2 q52
        refine v_aload_n 31 0 rfl rfl rfl ?_
        refine v_gK 32 rfl fl12_71_11.r (al 53 rfl hn) (wk53 dy) (by decide) rfl (r := 74) (wc53_23 dy) ?_
        refine v_iload_n 33 2 rfl rfl rfl ?_
        refine v_dup2 34 rfl (by intro h; cases h) (by intro h; cases h) ?_
        refine v_la (N := 60) 35 rfl (al 74 rfl hn) (wk74 dy) (wn74 dy) (by decide) c8 (y := (up2 g 74 ((g 71 x1.toNat).toNat) 0) 74 ((g 71 x1.toNat).toNat)) rfl ?_
        refine v_rng fun w65 => ?_
        have p66 : i6 ((up2 g 74 ((g 71 x1.toNat).toNat) 0) 74 ((g 71 x1.toNat).toNat)) := rL w65 (q := ((g 71 x1.toNat).toNat)) (al 74 rfl hn) (wk74 dy) rfl rfl
        refine v_aload_n 36 0 rfl rfl rfl ?_
        refine v_gK 37 rfl fl12_71_11.r (al 53 rfl hn) (wk53 dy) (by decide) rfl (r := 74) (wc53_23 dy) ?_
        refine v_aload_n 38 0 rfl rfl rfl ?_
        refine v_gK 39 rfl fl12_47_11.r (al 53 rfl hn) (wk53 dy) (by decide) rfl (r := 66) (wc53_15 dy) ?_
        refine v_iload_n 40 2 rfl rfl rfl ?_
        refine v_ia (N := 60) 41 rfl (al 66 rfl hn) (wk66 dy) (wn66 dy) (by decide) c8 (y := g 66 ((g 71 x1.toNat).toNat)) rfl ?_
        refine v_rng fun w67 => ?_
        have p68 : i3 (g 66 ((g 71 x1.toNat).toNat)) := rI w67 (q := ((g 71 x1.toNat).toNat)) (al 66 rfl hn) (wk66 dy) rfl rfl
        have c69 := h.1
        have h := h.2
        refine v_la (N := 60) 42 rfl (al 74 rfl hn) (wk74 dy) (wn74 dy) (by decide) c69 (y := (up2 g 74 ((g 71 x1.toNat).toNat) 0) 74 ((g 66 ((g 71 x1.toNat).toNat)).toNat)) rfl ?_
        refine v_rng fun w70 => ?_
        have p71 : i6 ((up2 g 74 ((g 71 x1.toNat).toNat) 0) 74 ((g 66 ((g 71 x1.toNat).toNat)).toNat)) := rL w70 (q := ((g 66 ((g 71 x1.toNat).toNat)).toNat)) (al 74 rfl hn) (wk74 dy) rfl rfl
        refine v_ladd 43 rfl ?_
        refine v_nmL (fun y72 ey72 => ?_)
        have h := h y72 ey72
        have c73 := h.1
        have h := h.2
        refine v_last (N := 60) 44 rfl (al 74 rfl hn) (wk74 dy) (wn74 dy) (by decide) c8 c73 ?_
        refine v_aload_n 45 0 rfl rfl rfl ?_
        refine v_gK 46 rfl fl12_50_11.r (al 53 rfl hn) (wk53 dy) (by decide) rfl (r := 67) (wc53_16 dy) ?_
        refine v_iload_n 47 2 rfl rfl rfl ?_
        refine v_ia (N := 60) 48 rfl (al 67 rfl hn) (wk67 dy) (wn67 dy) (by decide) c8 (y := g 67 ((g 71 x1.toNat).toNat)) rfl ?_
        refine v_rng fun w74 => ?_
        have p75 : i3 (g 67 ((g 71 x1.toNat).toNat)) := rI w74 (q := ((g 71 x1.toNat).toNat)) (al 67 rfl hn) (wk67 dy) rfl rfl
        refine v_if_lt 49 rfl (tgt := 100) rfl p75 (fun q76 => ?_) (fun q76 => ?_)
        · have h := h.1 q76
          refine v_iinc 64 1 [1, 0, 2] rfl rfl (by decide) rfl ?_
          refine v_goto 65 rfl (tgt := 2) rfl ?_
          refine v_loc [0, 1] rfl ?_
          exact h
        · have h := h.2 q76
          refine v_aload_n 50 0 rfl rfl rfl ?_
          refine v_gK 51 rfl fl12_71_11.r (al 53 rfl hn) (wk53 dy) (by decide) rfl (r := 74) (wc53_23 dy) ?_
          refine v_iload_n 52 2 rfl rfl rfl ?_
          refine v_dup2 53 rfl (by intro h; cases h) (by intro h; cases h) ?_
          refine v_la (N := 60) 54 rfl (al 74 rfl hn) (wk74 dy) (wn74 dy) (by decide) c8 (y := (up2 (up2 g 74 ((g 71 x1.toNat).toNat) 0) 74 ((g 71 x1.toNat).toNat) y72) 74 ((g 71 x1.toNat).toNat)) rfl ?_
          refine v_rng fun w77 => ?_
          have p78 : i6 ((up2 (up2 g 74 ((g 71 x1.toNat).toNat) 0) 74 ((g 71 x1.toNat).toNat) y72) 74 ((g 71 x1.toNat).toNat)) := rL w77 (q := ((g 71 x1.toNat).toNat)) (al 74 rfl hn) (wk74 dy) rfl rfl
          refine v_aload_n 55 0 rfl rfl rfl ?_
          refine v_gK 56 rfl fl12_71_11.r (al 53 rfl hn) (wk53 dy) (by decide) rfl (r := 74) (wc53_23 dy) ?_
          refine v_aload_n 57 0 rfl rfl rfl ?_
          refine v_gK 58 rfl fl12_50_11.r (al 53 rfl hn) (wk53 dy) (by decide) rfl (r := 67) (wc53_16 dy) ?_
          refine v_iload_n 59 2 rfl rfl rfl ?_
          refine v_ia (N := 60) 60 rfl (al 67 rfl hn) (wk67 dy) (wn67 dy) (by decide) c8 (y := g 67 ((g 71 x1.toNat).toNat)) rfl ?_
          refine v_rng fun w79 => ?_
          have p80 : i3 (g 67 ((g 71 x1.toNat).toNat)) := rI w79 (q := ((g 71 x1.toNat).toNat)) (al 67 rfl hn) (wk67 dy) rfl rfl
          have c81 := h.1
          have h := h.2
          refine v_la (N := 60) 61 rfl (al 74 rfl hn) (wk74 dy) (wn74 dy) (by decide) c81 (y := (up2 (up2 g 74 ((g 71 x1.toNat).toNat) 0) 74 ((g 71 x1.toNat).toNat) y72) 74 ((g 67 ((g 71 x1.toNat).toNat)).toNat)) rfl ?_
          refine v_rng fun w82 => ?_
          have p83 : i6 ((up2 (up2 g 74 ((g 71 x1.toNat).toNat) 0) 74 ((g 71 x1.toNat).toNat) y72) 74 ((g 67 ((g 71 x1.toNat).toNat)).toNat)) := rL w82 (q := ((g 67 ((g 71 x1.toNat).toNat)).toNat)) (al 74 rfl hn) (wk74 dy) rfl rfl
          refine v_ladd 62 rfl ?_
          refine v_nmL (fun y84 ey84 => ?_)
          have h := h y84 ey84
          have c85 := h.1
          have h := h.2
          refine v_last (N := 60) 63 rfl (al 74 rfl hn) (wk74 dy) (wn74 dy) (by decide) c8 c85 ?_
          refine v_iinc 64 1 [1, 0, 2] rfl rfl (by decide) rfl ?_
          refine v_goto 65 rfl (tgt := 2) rfl ?_
          refine v_loc [0, 1] rfl ?_
          exact h
theorem wX12_loads {d n : Nat} {dy : Nat → Shp} {g : Hp} {P : Pst}  (hn : 100 ≤ n) (h : V miX12_loads d 2 [(0, .ref 53), (1, I_ 0)] [] n (W0 dy) g 0 0 P) : Runs miX12_loads d [.ref 53] n (W0 dy) g P := Runs.of rfl rfl deX12_loads (Nat.le_of_ble_eq_true rfl) (bX12_loads_0 hn h)
theorem lv12_252_allThere_11 : LkV miX12_allThere miX12_orders 252 0 11 := ⟨⟨⟨tbG_in (List.mem_append_right _ (List.mem_of_getElem? (i := 1469) (by decide +kernel))) rfl, tbG_in (List.mem_append_right _ (List.mem_of_getElem? (i := 9) (by decide +kernel))) rfl, tbG_in (List.mem_append_right _ (List.mem_of_getElem? (i := 1466) (by decide +kernel))) rfl⟩, ⟨by decide +kernel, by decide +kernel, by decide +kernel⟩, by decide⟩, tbG_in (List.mem_append_right _ (List.mem_of_getElem? (i := 1468) (by decide +kernel))) rfl, RX12, TX12, 58, rfl, tbG_in (List.mem_append_left _ (List.mem_of_getElem? (i := 64) (by decide +kernel))) rfl⟩
theorem lv12_255_allThere_11 : LkV miX12_allThere miX12_loads 255 0 11 := ⟨⟨⟨tbG_in (List.mem_append_right _ (List.mem_of_getElem? (i := 1473) (by decide +kernel))) rfl, tbG_in (List.mem_append_right _ (List.mem_of_getElem? (i := 9) (by decide +kernel))) rfl, tbG_in (List.mem_append_right _ (List.mem_of_getElem? (i := 1470) (by decide +kernel))) rfl⟩, ⟨by decide +kernel, by decide +kernel, by decide +kernel⟩, by decide⟩, tbG_in (List.mem_append_right _ (List.mem_of_getElem? (i := 1472) (by decide +kernel))) rfl, RX12, TX12, 58, rfl, tbG_in (List.mem_append_left _ (List.mem_of_getElem? (i := 65) (by decide +kernel))) rfl⟩
set_option maxHeartbeats 8000000 in
set_option maxRecDepth 4000 in
theorem bX12_allThere_0 {d n : Nat} {dy : Nat → Shp} {g : Hp} {P : Pst}  (hn : 100 ≤ n) (h : V miX12_allThere (d + 1) 2 [(0, .ref 53), (1, I_ 0)] [] n (W0 dy) g 0 0 P) : V miX12_allThere (d + 1) 0 [(0, .ref 53)] [] n (W0 dy) g 0 0 P := by
  refine v_iconst 0 rfl ?_
  refine v_istore_n 1 [1, 0] rfl rfl (by decide) rfl ?_
  exact h
set_option maxHeartbeats 8000000 in
set_option maxRecDepth 4000 in
theorem bX12_allThere_2 {d n : Nat} {dy : Nat → Shp} {g : Hp} {P : Pst} {x1 : Int} (hn : 100 ≤ n) (h : (i3 x1) ∧ (((g 53 5) ≤ x1) → Runs miX12_orders d [.ref 53] n (W0 dy) g (fun v n' S' g' => V miX12_allThere (d + 1) 27 [(0, .ref 53), (1, I_ x1)] (v.toList ++ []) n' S' g' 0 0 P)) ∧ ((x1 < (g 53 5)) → (0 ≤ x1 ∧ x1 < 60) ∧ V miX12_allThere (d + 1) 2 [(0, .ref 53), (1, I_ (x1 + 1))] [] n (W0 dy) (up2 g 76 x1.toNat 0) 0 0 P)) : V miX12_allThere (d + 1) 2 [(0, .ref 53), (1, I_ x1)] [] n (W0 dy) g 0 0 P := by
  refine v_iload_n 2 1 rfl rfl rfl ?_
  refine v_aload_n 3 0 rfl rfl rfl ?_
  refine v_gI 4 rfl fl12_169_11.r (al 53 rfl hn) (wk53 dy) (by decide) rfl (wc53_5 dy) (x := g 53 5) rfl ?_
  refine v_rng fun w1 => ?_
  have p2 : i3 (g 53 5) := rI w1 (q := 5) (al 53 rfl hn) (wk53 dy) rfl rfl
  have c3 := h.1
  have h := h.2
  refine v_icmp_ge 5 rfl (tgt := 23) rfl c3 p2 (fun q4 => ?_) (fun q4 => ?_)
  · have h := h.1 q4
    refine v_aload_n 13 0 rfl rfl rfl ?_
    refine v_callV (st := []) [] 14 rfl lv12_252_allThere_11 (al 53 rfl hn) (wk53 dy) (by decide) rfl (Nat.le_refl _) (Nat.le_refl _) ?_
    exact h
  · have h := h.2 q4
    refine v_aload_n 6 0 rfl rfl rfl ?_
    refine v_gK 7 rfl fl12_78_11.r (al 53 rfl hn) (wk53 dy) (by decide) rfl (r := 76) (wc53_25 dy) ?_
    refine v_iload_n 8 1 rfl rfl rfl ?_
    refine v_iconst 9 rfl ?_
    have c5 := h.1
    have h := h.2
    refine v_zast (N := 60) 10 rfl (al 76 rfl hn) (wk76 dy) (wn76 dy) (by decide) c5 (Or.inl rfl) (by decide) ?_
    refine v_iinc 11 1 [1, 0] rfl rfl (by decide) rfl ?_
    refine v_goto 12 rfl (tgt := 2) rfl ?_
    exact h
set_option maxHeartbeats 8000000 in
set_option maxRecDepth 4000 in
theorem bX12_allThere_27 {d n : Nat} {dy : Nat → Shp} {g : Hp} {P : Pst} {x1 : Int} (hn : 100 ≤ n) (h : Runs miX12_loads d [.ref 53] n (W0 dy) g (fun v n' S' g' => V miX12_allThere (d + 1) 31 [(0, .ref 53), (1, I_ x1)] (v.toList ++ []) n' S' g' 0 0 P)) : V miX12_allThere (d + 1) 27 [(0, .ref 53), (1, I_ x1)] [] n (W0 dy) g 0 0 P := by
  refine v_aload_n 15 0 rfl rfl rfl ?_
  refine v_callV (st := []) [] 16 rfl lv12_255_allThere_11 (al 53 rfl hn) (wk53 dy) (by decide) rfl (Nat.le_refl _) (Nat.le_refl _) ?_
  exact h
set_option maxHeartbeats 8000000 in
set_option maxRecDepth 4000 in
theorem bX12_allThere_31 {d n : Nat} {dy : Nat → Shp} {g : Hp} {P : Pst} {x1 : Int} (hn : 100 ≤ n) (h : P none n (W0 dy) g) : V miX12_allThere (d + 1) 31 [(0, .ref 53), (1, I_ x1)] [] n (W0 dy) g 0 0 P := by
  exact v_ret (v := none) 17 rfl (Nat.zero_le _) (Nat.zero_le _) trivial rfl h
theorem wX12_allThere {d n : Nat} {dy : Nat → Shp} {g : Hp} {P : Pst}  (hn : 100 ≤ n) (h : V miX12_allThere (d + 1) 2 [(0, .ref 53), (1, I_ 0)] [] n (W0 dy) g 0 0 P) : Runs miX12_allThere (d + 1) [.ref 53] n (W0 dy) g P := Runs.of rfl rfl deX12_allThere (Nat.le_of_ble_eq_true rfl) (bX12_allThere_0 hn h)
set_option maxHeartbeats 8000000 in
set_option maxRecDepth 4000 in
theorem bX12_loadAt_0 {d n : Nat} {dy : Nat → Shp} {g : Hp} {P : Pst} {x1 : Int} (hn : 100 ≤ n) (h : (i3 x1) ∧ ((0 ≤ x1) → (0 ≤ x1 ∧ x1 < 60) ∧ P (some (L_ (g 74 x1.toNat))) n (W0 dy) g) ∧ ((x1 < 0) → P (some (L_ 0)) n (W0 dy) g)) : V miX12_loadAt d 0 [(0, .ref 53), (1, I_ x1)] [] n (W0 dy) g 0 0 P := by
  refine v_iload_n 0 1 rfl rfl rfl ?_
  have c1 := h.1
  have h := h.2
  refine v_if_ge 1 rfl (tgt := 8) rfl c1 (fun q2 => ?_) (fun q2 => ?_)
  · have h := h.1 q2
    refine v_aload_n 4 0 rfl rfl rfl ?_
    refine v_gK 5 rfl fl12_71_11.r (al 53 rfl hn) (wk53 dy) (by decide) rfl (r := 74) (wc53_23 dy) ?_
    refine v_iload_n 6 1 rfl rfl rfl ?_
    have c3 := h.1
    have h := h.2
    refine v_la (N := 60) 7 rfl (al 74 rfl hn) (wk74 dy) (wn74 dy) (by decide) c3 (y := g 74 x1.toNat) rfl ?_
    refine v_rng fun w4 => ?_
    have p5 : i6 (g 74 x1.toNat) := rL w4 (q := x1.toNat) (al 74 rfl hn) (wk74 dy) rfl rfl
    exact v_ret (v := some (L_ (g 74 x1.toNat))) 8 rfl (Nat.zero_le _) (Nat.zero_le _) trivial rfl h
  · have h := h.2 q2
    refine v_lconst (v := 0) 2 rfl (by decide) ?_
    refine v_goto 3 rfl (tgt := 14) rfl ?_
    exact v_ret (v := some (L_ 0)) 8 rfl (Nat.zero_le _) (Nat.zero_le _) trivial rfl h
theorem wX12_loadAt {d n : Nat} {dy : Nat → Shp} {g : Hp} {P : Pst} {x1 : Int} (hn : 100 ≤ n) (h : (i3 x1) ∧ ((0 ≤ x1) → (0 ≤ x1 ∧ x1 < 60) ∧ P (some (L_ (g 74 x1.toNat))) n (W0 dy) g) ∧ ((x1 < 0) → P (some (L_ 0)) n (W0 dy) g)) : Runs miX12_loadAt d [.ref 53, I_ x1] n (W0 dy) g P := Runs.of rfl rfl deX12_loadAt (Nat.le_of_ble_eq_true rfl) (bX12_loadAt_0 hn h)
theorem lv12_258_levelP_11 : LkV miX12_levelP miX12_loadAt 258 1 11 := ⟨⟨⟨tbG_in (List.mem_append_right _ (List.mem_of_getElem? (i := 1489) (by decide +kernel))) rfl, tbG_in (List.mem_append_right _ (List.mem_of_getElem? (i := 9) (by decide +kernel))) rfl, tbG_in (List.mem_append_right _ (List.mem_of_getElem? (i := 1486) (by decide +kernel))) rfl⟩, ⟨by decide +kernel, by decide +kernel, by decide +kernel⟩, by decide⟩, tbG_in (List.mem_append_right _ (List.mem_of_getElem? (i := 1488) (by decide +kernel))) rfl, RX12, TX12, 58, rfl, tbG_in (List.mem_append_left _ (List.mem_of_getElem? (i := 68) (by decide +kernel))) rfl⟩
set_option maxHeartbeats 8000000 in
set_option maxRecDepth 4000 in
theorem bX12_levelP_0 {d n : Nat} {dy : Nat → Shp} {g : Hp} {P : Pst} {x1 : Int} (hn : 100 ≤ n) (h : (0 ≤ x1 ∧ x1 < 60) ∧ Runs miX12_loadAt d [.ref 53, I_ (g 67 x1.toNat)] n (W0 dy) g (fun v n' S' g' => V miX12_levelP (d + 1) 13 [(0, .ref 53), (1, I_ x1)] (v.toList ++ [L_ 2]) n' S' g' 0 0 P)) : V miX12_levelP (d + 1) 0 [(0, .ref 53), (1, I_ x1)] [] n (W0 dy) g 0 0 P := by
  refine v_ldc2 (v := 2) 0 rfl (tbG_in (List.mem_append_right _ (List.mem_of_getElem? (i := 1364) (by decide +kernel))) rfl) ?_
  refine v_aload_n 1 0 rfl rfl rfl ?_
  refine v_aload_n 2 0 rfl rfl rfl ?_
  refine v_gK 3 rfl fl12_50_11.r (al 53 rfl hn) (wk53 dy) (by decide) rfl (r := 67) (wc53_16 dy) ?_
  refine v_iload_n 4 1 rfl rfl rfl ?_
  have c1 := h.1
  have h := h.2
  refine v_ia (N := 60) 5 rfl (al 67 rfl hn) (wk67 dy) (wn67 dy) (by decide) c1 (y := g 67 x1.toNat) rfl ?_
  refine v_rng fun w2 => ?_
  have p3 : i3 (g 67 x1.toNat) := rI w2 (q := x1.toNat) (al 67 rfl hn) (wk67 dy) rfl rfl
  refine v_callV (st := [L_ 2]) [I_ (g 67 x1.toNat)] 6 rfl lv12_258_levelP_11 (al 53 rfl hn) (wk53 dy) (by decide) rfl (Nat.le_refl _) (Nat.le_refl _) ?_
  exact h
set_option maxHeartbeats 8000000 in
set_option maxRecDepth 4000 in
theorem bX12_levelP_13 {d n : Nat} {dy : Nat → Shp} {g : Hp} {P : Pst} {x1 : Int} {xs0 : Int} {xs1 : Int} (hn : 100 ≤ n) (h : (0 ≤ x1 ∧ x1 < 60) ∧ P (some (L_ ((xs0 * xs1) + (g 63 x1.toNat)))) n (W0 dy) g) : V miX12_levelP (d + 1) 13 [(0, .ref 53), (1, I_ x1)] [L_ xs1, L_ xs0] n (W0 dy) g 0 0 P := by
  refine v_lmul 7 rfl ?_
  refine v_aload_n 8 0 rfl rfl rfl ?_
  refine v_gK 9 rfl fl12_38_11.r (al 53 rfl hn) (wk53 dy) (by decide) rfl (r := 63) (wc53_12 dy) ?_
  refine v_iload_n 10 1 rfl rfl rfl ?_
  have c1 := h.1
  have h := h.2
  refine v_la (N := 60) 11 rfl (al 63 rfl hn) (wk63 dy) (wn63 dy) (by decide) c1 (y := g 63 x1.toNat) rfl ?_
  refine v_rng fun w2 => ?_
  have p3 : i6 (g 63 x1.toNat) := rL w2 (q := x1.toNat) (al 63 rfl hn) (wk63 dy) rfl rfl
  refine v_ladd 12 rfl ?_
  exact v_ret (v := some (L_ ((xs0 * xs1) + (g 63 x1.toNat)))) 13 rfl (Nat.zero_le _) (Nat.zero_le _) trivial rfl h
theorem wX12_levelP {d n : Nat} {dy : Nat → Shp} {g : Hp} {P : Pst} {x1 : Int} (hn : 100 ≤ n) (h : (0 ≤ x1 ∧ x1 < 60) ∧ Runs miX12_loadAt d [.ref 53, I_ (g 67 x1.toNat)] n (W0 dy) g (fun v n' S' g' => V miX12_levelP (d + 1) 13 [(0, .ref 53), (1, I_ x1)] (v.toList ++ [L_ 2]) n' S' g' 0 0 P)) : Runs miX12_levelP (d + 1) [.ref 53, I_ x1] n (W0 dy) g P := Runs.of rfl rfl deX12_levelP (Nat.le_of_ble_eq_true rfl) (bX12_levelP_0 hn h)
theorem lv12_258_levelQ_11 : LkV miX12_levelQ miX12_loadAt 258 1 11 := ⟨⟨⟨tbG_in (List.mem_append_right _ (List.mem_of_getElem? (i := 1489) (by decide +kernel))) rfl, tbG_in (List.mem_append_right _ (List.mem_of_getElem? (i := 9) (by decide +kernel))) rfl, tbG_in (List.mem_append_right _ (List.mem_of_getElem? (i := 1486) (by decide +kernel))) rfl⟩, ⟨by decide +kernel, by decide +kernel, by decide +kernel⟩, by decide⟩, tbG_in (List.mem_append_right _ (List.mem_of_getElem? (i := 1488) (by decide +kernel))) rfl, RX12, TX12, 58, rfl, tbG_in (List.mem_append_left _ (List.mem_of_getElem? (i := 68) (by decide +kernel))) rfl⟩
set_option maxHeartbeats 8000000 in
set_option maxRecDepth 4000 in
theorem bX12_levelQ_0 {d n : Nat} {dy : Nat → Shp} {g : Hp} {P : Pst} {x1 : Int} (hn : 100 ≤ n) (h : (0 ≤ x1 ∧ x1 < 60) ∧ Runs miX12_loadAt d [.ref 53, I_ (g 66 x1.toNat)] n (W0 dy) g (fun v n' S' g' => V miX12_levelQ (d + 1) 13 [(0, .ref 53), (1, I_ x1)] (v.toList ++ [L_ 2]) n' S' g' 0 0 P)) : V miX12_levelQ (d + 1) 0 [(0, .ref 53), (1, I_ x1)] [] n (W0 dy) g 0 0 P := by
  refine v_ldc2 (v := 2) 0 rfl (tbG_in (List.mem_append_right _ (List.mem_of_getElem? (i := 1364) (by decide +kernel))) rfl) ?_
  refine v_aload_n 1 0 rfl rfl rfl ?_
  refine v_aload_n 2 0 rfl rfl rfl ?_
  refine v_gK 3 rfl fl12_47_11.r (al 53 rfl hn) (wk53 dy) (by decide) rfl (r := 66) (wc53_15 dy) ?_
  refine v_iload_n 4 1 rfl rfl rfl ?_
  have c1 := h.1
  have h := h.2
  refine v_ia (N := 60) 5 rfl (al 66 rfl hn) (wk66 dy) (wn66 dy) (by decide) c1 (y := g 66 x1.toNat) rfl ?_
  refine v_rng fun w2 => ?_
  have p3 : i3 (g 66 x1.toNat) := rI w2 (q := x1.toNat) (al 66 rfl hn) (wk66 dy) rfl rfl
  refine v_callV (st := [L_ 2]) [I_ (g 66 x1.toNat)] 6 rfl lv12_258_levelQ_11 (al 53 rfl hn) (wk53 dy) (by decide) rfl (Nat.le_refl _) (Nat.le_refl _) ?_
  exact h
set_option maxHeartbeats 8000000 in
set_option maxRecDepth 4000 in
theorem bX12_levelQ_13 {d n : Nat} {dy : Nat → Shp} {g : Hp} {P : Pst} {x1 : Int} {xs0 : Int} {xs1 : Int} (hn : 100 ≤ n) (h : (0 ≤ x1 ∧ x1 < 60) ∧ Runs miX12_loadAt d [.ref 53, I_ (g 67 x1.toNat)] n (W0 dy) g (fun v n' S' g' => V miX12_levelQ (d + 1) 23 [(0, .ref 53), (1, I_ x1)] (v.toList ++ [L_ xs1, L_ xs0]) n' S' g' 0 0 P)) : V miX12_levelQ (d + 1) 13 [(0, .ref 53), (1, I_ x1)] [L_ xs1, L_ xs0] n (W0 dy) g 0 0 P := by
  refine v_aload_n 7 0 rfl rfl rfl ?_
  refine v_aload_n 8 0 rfl rfl rfl ?_
  refine v_gK 9 rfl fl12_50_11.r (al 53 rfl hn) (wk53 dy) (by decide) rfl (r := 67) (wc53_16 dy) ?_
  refine v_iload_n 10 1 rfl rfl rfl ?_
  have c1 := h.1
  have h := h.2
  refine v_ia (N := 60) 11 rfl (al 67 rfl hn) (wk67 dy) (wn67 dy) (by decide) c1 (y := g 67 x1.toNat) rfl ?_
  refine v_rng fun w2 => ?_
  have p3 : i3 (g 67 x1.toNat) := rI w2 (q := x1.toNat) (al 67 rfl hn) (wk67 dy) rfl rfl
  refine v_callV (st := [L_ xs1, L_ xs0]) [I_ (g 67 x1.toNat)] 12 rfl lv12_258_levelQ_11 (al 53 rfl hn) (wk53 dy) (by decide) rfl (Nat.le_refl _) (Nat.le_refl _) ?_
  exact h
set_option maxHeartbeats 8000000 in
set_option maxRecDepth 4000 in
theorem bX12_levelQ_23 {d n : Nat} {dy : Nat → Shp} {g : Hp} {P : Pst} {x1 : Int} {xs0 : Int} {xs1 : Int} {xs2 : Int} (hn : 100 ≤ n) (h : (0 ≤ x1 ∧ x1 < 60) ∧ P (some (L_ (xs0 * ((xs1 + xs2) + (g 63 x1.toNat))))) n (W0 dy) g) : V miX12_levelQ (d + 1) 23 [(0, .ref 53), (1, I_ x1)] [L_ xs2, L_ xs1, L_ xs0] n (W0 dy) g 0 0 P := by
  refine v_ladd 13 rfl ?_
  refine v_aload_n 14 0 rfl rfl rfl ?_
  refine v_gK 15 rfl fl12_38_11.r (al 53 rfl hn) (wk53 dy) (by decide) rfl (r := 63) (wc53_12 dy) ?_
  refine v_iload_n 16 1 rfl rfl rfl ?_
  have c1 := h.1
  have h := h.2
  refine v_la (N := 60) 17 rfl (al 63 rfl hn) (wk63 dy) (wn63 dy) (by decide) c1 (y := g 63 x1.toNat) rfl ?_
  refine v_rng fun w2 => ?_
  have p3 : i6 (g 63 x1.toNat) := rL w2 (q := x1.toNat) (al 63 rfl hn) (wk63 dy) rfl rfl
  refine v_ladd 18 rfl ?_
  refine v_lmul 19 rfl ?_
  exact v_ret (v := some (L_ (xs0 * ((xs1 + xs2) + (g 63 x1.toNat))))) 20 rfl (Nat.zero_le _) (Nat.zero_le _) trivial rfl h
theorem wX12_levelQ {d n : Nat} {dy : Nat → Shp} {g : Hp} {P : Pst} {x1 : Int} (hn : 100 ≤ n) (h : (0 ≤ x1 ∧ x1 < 60) ∧ Runs miX12_loadAt d [.ref 53, I_ (g 66 x1.toNat)] n (W0 dy) g (fun v n' S' g' => V miX12_levelQ (d + 1) 13 [(0, .ref 53), (1, I_ x1)] (v.toList ++ [L_ 2]) n' S' g' 0 0 P)) : Runs miX12_levelQ (d + 1) [.ref 53, I_ x1] n (W0 dy) g P := Runs.of rfl rfl deX12_levelQ (Nat.le_of_ble_eq_true rfl) (bX12_levelQ_0 hn h)
theorem lv12_262_tilt_11 : LkV miX12_tilt miX12_levelP 262 1 11 := ⟨⟨⟨tbG_in (List.mem_append_right _ (List.mem_of_getElem? (i := 1485) (by decide +kernel))) rfl, tbG_in (List.mem_append_right _ (List.mem_of_getElem? (i := 9) (by decide +kernel))) rfl, tbG_in (List.mem_append_right _ (List.mem_of_getElem? (i := 1482) (by decide +kernel))) rfl⟩, ⟨by decide +kernel, by decide +kernel, by decide +kernel⟩, by decide⟩, tbG_in (List.mem_append_right _ (List.mem_of_getElem? (i := 1484) (by decide +kernel))) rfl, RX12, TX12, 58, rfl, tbG_in (List.mem_append_left _ (List.mem_of_getElem? (i := 67) (by decide +kernel))) rfl⟩
theorem lv12_265_tilt_11 : LkV miX12_tilt miX12_levelQ 265 1 11 := ⟨⟨⟨tbG_in (List.mem_append_right _ (List.mem_of_getElem? (i := 1493) (by decide +kernel))) rfl, tbG_in (List.mem_append_right _ (List.mem_of_getElem? (i := 9) (by decide +kernel))) rfl, tbG_in (List.mem_append_right _ (List.mem_of_getElem? (i := 1490) (by decide +kernel))) rfl⟩, ⟨by decide +kernel, by decide +kernel, by decide +kernel⟩, by decide⟩, tbG_in (List.mem_append_right _ (List.mem_of_getElem? (i := 1492) (by decide +kernel))) rfl, RX12, TX12, 58, rfl, tbG_in (List.mem_append_left _ (List.mem_of_getElem? (i := 69) (by decide +kernel))) rfl⟩
theorem ls12_227_tilt : LkS miX12_tilt miX12_common 227 2 := ⟨⟨⟨tbG_in (List.mem_append_right _ (List.mem_of_getElem? (i := 1404) (by decide +kernel))) rfl, tbG_in (List.mem_append_right _ (List.mem_of_getElem? (i := 9) (by decide +kernel))) rfl, tbG_in (List.mem_append_right _ (List.mem_of_getElem? (i := 1402) (by decide +kernel))) rfl⟩, ⟨by decide +kernel, by decide +kernel, by decide +kernel⟩, by decide⟩, tbG_in (List.mem_append_right _ (List.mem_of_getElem? (i := 1403) (by decide +kernel))) rfl⟩
theorem ls12_204_tilt : LkS miX12_tilt miX12_sign 204 1 := ⟨⟨⟨tbG_in (List.mem_append_right _ (List.mem_of_getElem? (i := 1391) (by decide +kernel))) rfl, tbG_in (List.mem_append_right _ (List.mem_of_getElem? (i := 9) (by decide +kernel))) rfl, tbG_in (List.mem_append_right _ (List.mem_of_getElem? (i := 1389) (by decide +kernel))) rfl⟩, ⟨by decide +kernel, by decide +kernel, by decide +kernel⟩, by decide⟩, tbG_in (List.mem_append_right _ (List.mem_of_getElem? (i := 1390) (by decide +kernel))) rfl⟩
set_option maxHeartbeats 8000000 in
set_option maxRecDepth 4000 in
theorem bX12_tilt_0 {d n : Nat} {dy : Nat → Shp} {g : Hp} {P : Pst} {x1 : Int} (hn : 100 ≤ n) (h : Runs miX12_levelP d [.ref 53, I_ x1] n (W0 dy) g (fun v n' S' g' => V miX12_tilt (d + 1) 5 [(0, .ref 53), (1, I_ x1)] (v.toList ++ []) n' S' g' 0 0 P)) : V miX12_tilt (d + 1) 0 [(0, .ref 53), (1, I_ x1)] [] n (W0 dy) g 0 0 P := by
  refine v_aload_n 0 0 rfl rfl rfl ?_
  refine v_iload_n 1 1 rfl rfl rfl ?_
  refine v_callV (st := []) [I_ x1] 2 rfl lv12_262_tilt_11 (al 53 rfl hn) (wk53 dy) (by decide) rfl (Nat.le_refl _) (Nat.le_refl _) ?_
  exact h
set_option maxHeartbeats 8000000 in
set_option maxRecDepth 4000 in
theorem bX12_tilt_5 {d n : Nat} {dy : Nat → Shp} {g : Hp} {P : Pst} {x1 : Int} {xs0 : Int} (hn : 100 ≤ n) (h : Runs miX12_levelQ d [.ref 53, I_ x1] n (W0 dy) g (fun v n' S' g' => V miX12_tilt (d + 1) 11 [(0, .ref 53), (1, I_ x1), (2, L_ xs0)] (v.toList ++ []) n' S' g' 0 0 P)) : V miX12_tilt (d + 1) 5 [(0, .ref 53), (1, I_ x1)] [L_ xs0] n (W0 dy) g 0 0 P := by
  refine v_lstore_n 3 [1, 2, 0] rfl rfl (by decide) rfl ?_
  refine v_aload_n 4 0 rfl rfl rfl ?_
  refine v_iload_n 5 1 rfl rfl rfl ?_
  refine v_callV (st := []) [I_ x1] 6 rfl lv12_265_tilt_11 (al 53 rfl hn) (wk53 dy) (by decide) rfl (Nat.le_refl _) (Nat.le_refl _) ?_
  exact h
set_option maxHeartbeats 8000000 in
set_option maxRecDepth 4000 in
theorem bX12_tilt_11 {d n : Nat} {dy : Nat → Shp} {g : Hp} {P : Pst} {x1 : Int} {x2 : Int} {xs0 : Int} (hn : 100 ≤ n) (h : Runs miX12_common d [L_ x2, L_ xs0] n (W0 dy) g (fun v n' S' g' => V miX12_tilt (d + 1) 19 [(0, .ref 53), (1, I_ x1), (2, L_ x2), (4, L_ xs0)] (v.toList ++ []) n' S' g' 0 0 P)) : V miX12_tilt (d + 1) 11 [(0, .ref 53), (1, I_ x1), (2, L_ x2)] [L_ xs0] n (W0 dy) g 0 0 P := by
  refine v_lstore 7 [1, 2, 3, 0] rfl (by decide) rfl ?_
  refine v_lload_n 8 2 rfl rfl rfl ?_
  refine v_lload 9 3 rfl rfl ?_
  refine v_callS (st := []) [L_ x2, L_ xs0] 10 rfl ls12_227_tilt rfl (Nat.lt_of_lt_of_le (by decide) hn) (Nat.le_refl _) (Nat.le_refl _) ?_
  exact h
set_option maxHeartbeats 8000000 in
set_option maxRecDepth 4000 in
theorem bX12_tilt_19 {d n : Nat} {dy : Nat → Shp} {g : Hp} {P : Pst} {x1 : Int} {x2 : Int} {x4 : Int} {xs0 : Int} (hn : 100 ≤ n) (h : (i6 xs0) ∧ ((xs0 ≠ 0) → (0 ≤ x1 ∧ x1 < 60) ∧ (i6 x4) ∧ (xs0 ≠ 0) ∧ (i6 x2) ∧ (xs0 ≠ 0) ∧ Runs miX12_sign d [L_ (((g 64 x1.toNat) * (x4.tdiv xs0)) - ((g 65 x1.toNat) * (x2.tdiv xs0)))] n (W0 dy) g (fun v n' S' g' => V miX12_tilt (d + 1) 57 [(0, .ref 53), (1, I_ x1), (2, L_ x2), (4, L_ x4), (6, L_ xs0)] (v.toList ++ []) n' S' g' 0 0 P)) ∧ ((xs0 = 0) → P (some (I_ 0)) n (W0 dy) g)) : V miX12_tilt (d + 1) 19 [(0, .ref 53), (1, I_ x1), (2, L_ x2), (4, L_ x4)] [L_ xs0] n (W0 dy) g 0 0 P := by
  refine v_lstore 11 [1, 2, 3, 4, 0] rfl (by decide) rfl ?_
  refine v_lload 12 4 rfl rfl ?_
  refine v_lconst (v := 0) 13 rfl (by decide) ?_
  have c1 := h.1
  have h := h.2
  refine v_lif_ne 14 rfl rfl (tgt := 30) rfl c1 (by decide) (fun q2 => ?_) (fun q2 => ?_)
  · have h := h.1 q2
    refine v_aload_n 18 0 rfl rfl rfl ?_
    refine v_gK 19 rfl fl12_41_11.r (al 53 rfl hn) (wk53 dy) (by decide) rfl (r := 64) (wc53_13 dy) ?_
    refine v_iload_n 20 1 rfl rfl rfl ?_
    have c3 := h.1
    have h := h.2
    refine v_la (N := 60) 21 rfl (al 64 rfl hn) (wk64 dy) (wn64 dy) (by decide) c3 (y := g 64 x1.toNat) rfl ?_
    refine v_rng fun w4 => ?_
    have p5 : i6 (g 64 x1.toNat) := rL w4 (q := x1.toNat) (al 64 rfl hn) (wk64 dy) rfl rfl
    refine v_lload 22 3 rfl rfl ?_
    refine v_lload 23 4 rfl rfl ?_
    have c6 := h.1
    have h := h.2
    have c7 := h.1
    have h := h.2
    refine v_ldiv 24 rfl c6 c1 c7 ?_
    refine v_lmul 25 rfl ?_
    refine v_aload_n 26 0 rfl rfl rfl ?_
    refine v_gK 27 rfl fl12_44_11.r (al 53 rfl hn) (wk53 dy) (by decide) rfl (r := 65) (wc53_14 dy) ?_
    refine v_iload_n 28 1 rfl rfl rfl ?_
    refine v_la (N := 60) 29 rfl (al 65 rfl hn) (wk65 dy) (wn65 dy) (by decide) c3 (y := g 65 x1.toNat) rfl ?_
    refine v_rng fun w8 => ?_
    have p9 : i6 (g 65 x1.toNat) := rL w8 (q := x1.toNat) (al 65 rfl hn) (wk65 dy) rfl rfl
    refine v_lload_n 30 2 rfl rfl rfl ?_
    refine v_lload 31 4 rfl rfl ?_
    have c10 := h.1
    have h := h.2
    have c11 := h.1
    have h := h.2
    refine v_ldiv 32 rfl c10 c1 c11 ?_
    refine v_lmul 33 rfl ?_
    refine v_lsub 34 rfl ?_
    refine v_callS (st := []) [L_ (((g 64 x1.toNat) * (x4.tdiv xs0)) - ((g 65 x1.toNat) * (x2.tdiv xs0)))] 35 rfl ls12_204_tilt rfl (Nat.lt_of_lt_of_le (by decide) hn) (Nat.le_refl _) (Nat.le_refl _) ?_
    exact h
  · have h := h.2 q2
    refine v_iconst 16 rfl ?_
    exact v_ret (v := some (I_ 0)) 17 rfl (Nat.zero_le _) (Nat.zero_le _) trivial rfl h
set_option maxHeartbeats 8000000 in
set_option maxRecDepth 4000 in
theorem bX12_tilt_57 {d n : Nat} {dy : Nat → Shp} {g : Hp} {P : Pst} {x1 : Int} {x2 : Int} {x4 : Int} {x6 : Int} {xs0 : Int} (hn : 100 ≤ n) (h : P (some (I_ xs0)) n (W0 dy) g) : V miX12_tilt (d + 1) 57 [(0, .ref 53), (1, I_ x1), (2, L_ x2), (4, L_ x4), (6, L_ x6)] [I_ xs0] n (W0 dy) g 0 0 P := by
  exact v_ret (v := some (I_ xs0)) 36 rfl (Nat.zero_le _) (Nat.zero_le _) trivial rfl h
theorem wX12_tilt {d n : Nat} {dy : Nat → Shp} {g : Hp} {P : Pst} {x1 : Int} (hn : 100 ≤ n) (h : Runs miX12_levelP d [.ref 53, I_ x1] n (W0 dy) g (fun v n' S' g' => V miX12_tilt (d + 1) 5 [(0, .ref 53), (1, I_ x1)] (v.toList ++ []) n' S' g' 0 0 P)) : Runs miX12_tilt (d + 1) [.ref 53, I_ x1] n (W0 dy) g P := Runs.of rfl rfl deX12_tilt (Nat.le_of_ble_eq_true rfl) (bX12_tilt_0 hn h)
theorem lv12_222_bears_11 : LkV miX12_bears miX12_isPart 222 1 11 := ⟨⟨⟨tbG_in (List.mem_append_right _ (List.mem_of_getElem? (i := 1400) (by decide +kernel))) rfl, tbG_in (List.mem_append_right _ (List.mem_of_getElem? (i := 9) (by decide +kernel))) rfl, tbG_in (List.mem_append_right _ (List.mem_of_getElem? (i := 1397) (by decide +kernel))) rfl⟩, ⟨by decide +kernel, by decide +kernel, by decide +kernel⟩, by decide⟩, tbG_in (List.mem_append_right _ (List.mem_of_getElem? (i := 1399) (by decide +kernel))) rfl, RX12, TX12, 58, rfl, tbG_in (List.mem_append_left _ (List.mem_of_getElem? (i := 56) (by decide +kernel))) rfl⟩
theorem lv12_268_bears_11 : LkV miX12_bears miX12_allThere 268 0 11 := ⟨⟨⟨tbG_in (List.mem_append_right _ (List.mem_of_getElem? (i := 1465) (by decide +kernel))) rfl, tbG_in (List.mem_append_right _ (List.mem_of_getElem? (i := 9) (by decide +kernel))) rfl, tbG_in (List.mem_append_right _ (List.mem_of_getElem? (i := 1462) (by decide +kernel))) rfl⟩, ⟨by decide +kernel, by decide +kernel, by decide +kernel⟩, by decide⟩, tbG_in (List.mem_append_right _ (List.mem_of_getElem? (i := 1464) (by decide +kernel))) rfl, RX12, TX12, 58, rfl, tbG_in (List.mem_append_left _ (List.mem_of_getElem? (i := 63) (by decide +kernel))) rfl⟩
theorem lv12_174_bears_11 : LkV miX12_bears miX12_refuse 174 1 11 := ⟨⟨⟨tbG_in (List.mem_append_right _ (List.mem_of_getElem? (i := 1351) (by decide +kernel))) rfl, tbG_in (List.mem_append_right _ (List.mem_of_getElem? (i := 9) (by decide +kernel))) rfl, tbG_in (List.mem_append_right _ (List.mem_of_getElem? (i := 1348) (by decide +kernel))) rfl⟩, ⟨by decide +kernel, by decide +kernel, by decide +kernel⟩, by decide⟩, tbG_in (List.mem_append_right _ (List.mem_of_getElem? (i := 1350) (by decide +kernel))) rfl, RX12, TX12, 58, rfl, tbG_in (List.mem_append_left _ (List.mem_of_getElem? (i := 50) (by decide +kernel))) rfl⟩
set_option maxHeartbeats 8000000 in
set_option maxRecDepth 4000 in
theorem bX12_bears_0 {d n : Nat} {dy : Nat → Shp} {g : Hp} {P : Pst} {x1 : Int} (hn : 100 ≤ n) (h : Runs miX12_isPart d [.ref 53, I_ x1] n (W0 dy) (up2 (up2 g 53 1 0) 53 0 0) (fun v n' S' g' => V miX12_bears (d + 1) 15 [(0, .ref 53), (1, I_ x1)] (v.toList ++ []) n' S' g' 0 0 P)) : V miX12_bears (d + 1) 0 [(0, .ref 53), (1, I_ x1)] [] n (W0 dy) g 0 0 P := by
  refine v_aload_n 0 0 rfl rfl rfl ?_
  refine v_iconst 1 rfl ?_
  refine v_putI 2 rfl fl12_148_11 (al 53 rfl hn) (wk53 dy) (by decide) rfl (wc53_1 dy) (by decide) ?_
  refine v_aload_n 3 0 rfl rfl rfl ?_
  refine v_iconst 4 rfl ?_
  refine v_putI 5 rfl fl12_152_11 (al 53 rfl hn) (wk53 dy) (by decide) rfl (wc53_0 dy) (by decide) ?_
  refine v_aload_n 6 0 rfl rfl rfl ?_
  refine v_iload_n 7 1 rfl rfl rfl ?_
  refine v_callV (st := []) [I_ x1] 8 rfl lv12_222_bears_11 (al 53 rfl hn) (wk53 dy) (by decide) rfl (Nat.le_refl _) (Nat.le_refl _) ?_
  exact h
set_option maxHeartbeats 8000000 in
set_option maxRecDepth 4000 in
theorem bX12_bears_15 {d n : Nat} {dy : Nat → Shp} {g : Hp} {P : Pst} {x1 : Int} {xs0 : Int} (hn : 100 ≤ n) (h : (i3 xs0) ∧ ((xs0 ≠ 0) → Runs miX12_allThere d [.ref 53] n (W0 dy) g (fun v n' S' g' => V miX12_bears (d + 1) 29 [(0, .ref 53), (1, I_ x1)] (v.toList ++ []) n' S' g' 0 0 P)) ∧ ((xs0 = 0) → Runs miX12_refuse d [.ref 53, I_ 2] n (W0 dy) g (fun v n' S' g' => V miX12_bears (d + 1) 23 [(0, .ref 53), (1, I_ x1)] (v.toList ++ []) n' S' g' 0 0 P))) : V miX12_bears (d + 1) 15 [(0, .ref 53), (1, I_ x1)] [I_ xs0] n (W0 dy) g 0 0 P := by
  have c1 := h.1
  have h := h.2
  refine v_if_ne 9 rfl (tgt := 25) rfl c1 (fun q2 => ?_) (fun q2 => ?_)
  · have h := h.1 q2
    refine v_aload_n 15 0 rfl rfl rfl ?_
    refine v_callV (st := []) [] 16 rfl lv12_268_bears_11 (al 53 rfl hn) (wk53 dy) (by decide) rfl (Nat.le_refl _) (Nat.le_refl _) ?_
    exact h
  · have h := h.2 q2
    refine v_aload_n 10 0 rfl rfl rfl ?_
    refine v_iconst 11 rfl ?_
    refine v_callV (st := []) [I_ 2] 12 rfl lv12_174_bears_11 (al 53 rfl hn) (wk53 dy) (by decide) rfl (Nat.le_refl _) (Nat.le_refl _) ?_
    exact h
set_option maxHeartbeats 8000000 in
set_option maxRecDepth 4000 in
theorem bX12_bears_23 {d n : Nat} {dy : Nat → Shp} {g : Hp} {P : Pst} {x1 : Int} {xs0 : Int} (hn : 100 ≤ n) (h : (i3 xs0) ∧ P (some (L_ xs0)) n (W0 dy) g) : V miX12_bears (d + 1) 23 [(0, .ref 53), (1, I_ x1)] [I_ xs0] n (W0 dy) g 0 0 P := by
  have c1 := h.1
  have h := h.2
  refine v_i2l 13 rfl c1 ?_
  exact v_ret (v := some (L_ xs0)) 14 rfl (Nat.zero_le _) (Nat.zero_le _) trivial rfl h
set_option maxHeartbeats 8000000 in
set_option maxRecDepth 4000 in
theorem bX12_bears_29 {d n : Nat} {dy : Nat → Shp} {g : Hp} {P : Pst} {x1 : Int} (hn : 100 ≤ n) (h : (0 ≤ x1 ∧ x1 < 60) ∧ P (some (L_ (g 74 x1.toNat))) n (W0 dy) g) : V miX12_bears (d + 1) 29 [(0, .ref 53), (1, I_ x1)] [] n (W0 dy) g 0 0 P := by
  refine v_aload_n 17 0 rfl rfl rfl ?_
  refine v_gK 18 rfl fl12_71_11.r (al 53 rfl hn) (wk53 dy) (by decide) rfl (r := 74) (wc53_23 dy) ?_
  refine v_iload_n 19 1 rfl rfl rfl ?_
  have c1 := h.1
  have h := h.2
  refine v_la (N := 60) 20 rfl (al 74 rfl hn) (wk74 dy) (wn74 dy) (by decide) c1 (y := g 74 x1.toNat) rfl ?_
  refine v_rng fun w2 => ?_
  have p3 : i6 (g 74 x1.toNat) := rL w2 (q := x1.toNat) (al 74 rfl hn) (wk74 dy) rfl rfl
  exact v_ret (v := some (L_ (g 74 x1.toNat))) 21 rfl (Nat.zero_le _) (Nat.zero_le _) trivial rfl h
theorem wX12_bears {d n : Nat} {dy : Nat → Shp} {g : Hp} {P : Pst} {x1 : Int} (hn : 100 ≤ n) (h : Runs miX12_isPart d [.ref 53, I_ x1] n (W0 dy) (up2 (up2 g 53 1 0) 53 0 0) (fun v n' S' g' => V miX12_bears (d + 1) 15 [(0, .ref 53), (1, I_ x1)] (v.toList ++ []) n' S' g' 0 0 P)) : Runs miX12_bears (d + 1) [.ref 53, I_ x1] n (W0 dy) g P := Runs.of rfl rfl deX12_bears (Nat.le_of_ble_eq_true rfl) (bX12_bears_0 hn h)
theorem lv12_240_tilts_11 : LkV miX12_tilts miX12_rodded 240 1 11 := ⟨⟨⟨tbG_in (List.mem_append_right _ (List.mem_of_getElem? (i := 1424) (by decide +kernel))) rfl, tbG_in (List.mem_append_right _ (List.mem_of_getElem? (i := 9) (by decide +kernel))) rfl, tbG_in (List.mem_append_right _ (List.mem_of_getElem? (i := 1421) (by decide +kernel))) rfl⟩, ⟨by decide +kernel, by decide +kernel, by decide +kernel⟩, by decide⟩, tbG_in (List.mem_append_right _ (List.mem_of_getElem? (i := 1423) (by decide +kernel))) rfl, RX12, TX12, 58, rfl, tbG_in (List.mem_append_left _ (List.mem_of_getElem? (i := 59) (by decide +kernel))) rfl⟩
theorem lv12_268_tilts_11 : LkV miX12_tilts miX12_allThere 268 0 11 := ⟨⟨⟨tbG_in (List.mem_append_right _ (List.mem_of_getElem? (i := 1465) (by decide +kernel))) rfl, tbG_in (List.mem_append_right _ (List.mem_of_getElem? (i := 9) (by decide +kernel))) rfl, tbG_in (List.mem_append_right _ (List.mem_of_getElem? (i := 1462) (by decide +kernel))) rfl⟩, ⟨by decide +kernel, by decide +kernel, by decide +kernel⟩, by decide⟩, tbG_in (List.mem_append_right _ (List.mem_of_getElem? (i := 1464) (by decide +kernel))) rfl, RX12, TX12, 58, rfl, tbG_in (List.mem_append_left _ (List.mem_of_getElem? (i := 63) (by decide +kernel))) rfl⟩
theorem lv12_271_tilts_11 : LkV miX12_tilts miX12_tilt 271 1 11 := ⟨⟨⟨tbG_in (List.mem_append_right _ (List.mem_of_getElem? (i := 1481) (by decide +kernel))) rfl, tbG_in (List.mem_append_right _ (List.mem_of_getElem? (i := 9) (by decide +kernel))) rfl, tbG_in (List.mem_append_right _ (List.mem_of_getElem? (i := 1478) (by decide +kernel))) rfl⟩, ⟨by decide +kernel, by decide +kernel, by decide +kernel⟩, by decide⟩, tbG_in (List.mem_append_right _ (List.mem_of_getElem? (i := 1480) (by decide +kernel))) rfl, RX12, TX12, 58, rfl, tbG_in (List.mem_append_left _ (List.mem_of_getElem? (i := 66) (by decide +kernel))) rfl⟩
set_option maxHeartbeats 8000000 in
set_option maxRecDepth 4000 in
theorem bX12_tilts_0 {d n : Nat} {dy : Nat → Shp} {g : Hp} {P : Pst} {x1 : Int} (hn : 100 ≤ n) (h : Runs miX12_rodded d [.ref 53, I_ x1] n (W0 dy) (up2 g 53 1 0) (fun v n' S' g' => V miX12_tilts (d + 1) 11 [(0, .ref 53), (1, I_ x1)] (v.toList ++ [.ref 53]) n' S' g' 0 0 P)) : V miX12_tilts (d + 1) 0 [(0, .ref 53), (1, I_ x1)] [] n (W0 dy) g 0 0 P := by
  refine v_aload_n 0 0 rfl rfl rfl ?_
  refine v_iconst 1 rfl ?_
  refine v_putI 2 rfl fl12_148_11 (al 53 rfl hn) (wk53 dy) (by decide) rfl (wc53_1 dy) (by decide) ?_
  refine v_aload_n 3 0 rfl rfl rfl ?_
  refine v_aload_n 4 0 rfl rfl rfl ?_
  refine v_iload_n 5 1 rfl rfl rfl ?_
  refine v_callV (st := [.ref 53]) [I_ x1] 6 rfl lv12_240_tilts_11 (al 53 rfl hn) (wk53 dy) (by decide) rfl (Nat.le_refl _) (Nat.le_refl _) ?_
  exact h
set_option maxHeartbeats 8000000 in
set_option maxRecDepth 4000 in
theorem bX12_tilts_11 {d n : Nat} {dy : Nat → Shp} {g : Hp} {P : Pst} {x1 : Int} {xs1 : Int} (hn : 100 ≤ n) (h : (i3 xs1) ∧ ((xs1 ≤ 0) → Runs miX12_allThere d [.ref 53] n (W0 dy) (up2 g 53 0 xs1) (fun v n' S' g' => V miX12_tilts (d + 1) 27 [(0, .ref 53), (1, I_ x1)] (v.toList ++ []) n' S' g' 0 0 P)) ∧ ((0 < xs1) → P (some (I_ ((-1)))) n (W0 dy) (up2 g 53 0 xs1))) : V miX12_tilts (d + 1) 11 [(0, .ref 53), (1, I_ x1)] [I_ xs1, .ref 53] n (W0 dy) g 0 0 P := by
  have c1 := h.1
  have h := h.2
  refine v_putI 7 rfl fl12_152_11 (al 53 rfl hn) (wk53 dy) (by decide) rfl (wc53_0 dy) c1 ?_
  refine v_aload_n 8 0 rfl rfl rfl ?_
  refine v_gI 9 rfl fl12_152_11.r (al 53 rfl hn) (wk53 dy) (by decide) rfl (wc53_0 dy) (x := xs1) rfl ?_
  refine v_rng fun w2 => ?_
  have p3 : i3 (xs1) := rI w2 (q := 0) (al 53 rfl hn) (wk53 dy) rfl rfl
  refine v_if_le 10 rfl (tgt := 23) rfl p3 (fun q4 => ?_) (fun q4 => ?_)
  · have h := h.1 q4
    refine v_aload_n 13 0 rfl rfl rfl ?_
    refine v_callV (st := []) [] 14 rfl lv12_268_tilts_11 (al 53 rfl hn) (wk53 dy) (by decide) rfl (Nat.le_refl _) (Nat.le_refl _) ?_
    exact h
  · have h := h.2 q4
    refine v_iconst 11 rfl ?_
    exact v_ret (v := some (I_ ((-1)))) 12 rfl (Nat.zero_le _) (Nat.zero_le _) trivial rfl h
set_option maxHeartbeats 8000000 in
set_option maxRecDepth 4000 in
theorem bX12_tilts_27 {d n : Nat} {dy : Nat → Shp} {g : Hp} {P : Pst} {x1 : Int} (hn : 100 ≤ n) (h : Runs miX12_tilt d [.ref 53, I_ x1] n (W0 dy) g (fun v n' S' g' => V miX12_tilts (d + 1) 32 [(0, .ref 53), (1, I_ x1)] (v.toList ++ []) n' S' g' 0 0 P)) : V miX12_tilts (d + 1) 27 [(0, .ref 53), (1, I_ x1)] [] n (W0 dy) g 0 0 P := by
  refine v_aload_n 15 0 rfl rfl rfl ?_
  refine v_iload_n 16 1 rfl rfl rfl ?_
  refine v_callV (st := []) [I_ x1] 17 rfl lv12_271_tilts_11 (al 53 rfl hn) (wk53 dy) (by decide) rfl (Nat.le_refl _) (Nat.le_refl _) ?_
  exact h
set_option maxHeartbeats 8000000 in
set_option maxRecDepth 4000 in
theorem bX12_tilts_32 {d n : Nat} {dy : Nat → Shp} {g : Hp} {P : Pst} {x1 : Int} {xs0 : Int} (hn : 100 ≤ n) (h : (i3 xs0) ∧ ((xs0 ≤ 0) → ((0 ≤ xs0) → P (some (I_ 0)) n (W0 dy) g) ∧ ((xs0 < 0) → P (some (I_ 2)) n (W0 dy) g)) ∧ ((0 < xs0) → P (some (I_ 1)) n (W0 dy) g)) : V miX12_tilts (d + 1) 32 [(0, .ref 53), (1, I_ x1)] [I_ xs0] n (W0 dy) g 0 0 P := by
  refine v_istore_n 18 [1, 2, 0] rfl rfl (by decide) rfl ?_
  refine v_iload_n 19 2 rfl rfl rfl ?_
  have c1 := h.1
  have h := h.2
  refine v_if_le 20 rfl (tgt := 41) rfl c1 (fun q2 => ?_) (fun q2 => ?_)
  · have h := h.1 q2
    refine v_iload_n 23 2 rfl rfl rfl ?_
    refine v_if_ge 24 rfl (tgt := 49) rfl c1 (fun q3 => ?_) (fun q3 => ?_)
    · have h := h.1 q3
      refine v_iconst 27 rfl ?_
      exact v_ret (v := some (I_ 0)) 28 rfl (Nat.zero_le _) (Nat.zero_le _) trivial rfl h
    · have h := h.2 q3
      refine v_iconst 25 rfl ?_
      refine v_goto 26 rfl (tgt := 50) rfl ?_
      exact v_ret (v := some (I_ 2)) 28 rfl (Nat.zero_le _) (Nat.zero_le _) trivial rfl h
  · have h := h.2 q2
    refine v_iconst 21 rfl ?_
    refine v_goto 22 rfl (tgt := 50) rfl ?_
    exact v_ret (v := some (I_ 1)) 28 rfl (Nat.zero_le _) (Nat.zero_le _) trivial rfl h
theorem wX12_tilts {d n : Nat} {dy : Nat → Shp} {g : Hp} {P : Pst} {x1 : Int} (hn : 100 ≤ n) (h : Runs miX12_rodded d [.ref 53, I_ x1] n (W0 dy) (up2 g 53 1 0) (fun v n' S' g' => V miX12_tilts (d + 1) 11 [(0, .ref 53), (1, I_ x1)] (v.toList ++ [.ref 53]) n' S' g' 0 0 P)) : Runs miX12_tilts (d + 1) [.ref 53, I_ x1] n (W0 dy) g P := Runs.of rfl rfl deX12_tilts (Nat.le_of_ble_eq_true rfl) (bX12_tilts_0 hn h)
theorem fl12_74_11 : FL RX12 74 11 24 true (.array .boolean) := ⟨RX12, TX12, 58, "MobileMakerModel", rfl, rfl, by decide, kf11, tbG_in (List.mem_append_right _ (List.mem_of_getElem? (i := 1151) (by decide +kernel))) rfl, Or.inl rfl, rfl, by decide +kernel, ⟨tyX12, tyX12_ok⟩, nmX12, fun _ => rfl⟩
theorem lv12_243_marks_11 : LkV miX12_marks miX12_isAbove 243 2 11 := ⟨⟨⟨tbG_in (List.mem_append_right _ (List.mem_of_getElem? (i := 1436) (by decide +kernel))) rfl, tbG_in (List.mem_append_right _ (List.mem_of_getElem? (i := 9) (by decide +kernel))) rfl, tbG_in (List.mem_append_right _ (List.mem_of_getElem? (i := 1433) (by decide +kernel))) rfl⟩, ⟨by decide +kernel, by decide +kernel, by decide +kernel⟩, by decide⟩, tbG_in (List.mem_append_right _ (List.mem_of_getElem? (i := 1435) (by decide +kernel))) rfl, RX12, TX12, 58, rfl, tbG_in (List.mem_append_left _ (List.mem_of_getElem? (i := 61) (by decide +kernel))) rfl⟩
set_option maxHeartbeats 8000000 in
set_option maxRecDepth 4000 in
theorem bX12_marks_0 {d n : Nat} {dy : Nat → Shp} {g : Hp} {P : Pst} {x1 : Int} (hn : 100 ≤ n) (h : V miX12_marks (d + 1) 2 [(0, .ref 53), (1, I_ x1), (2, I_ 0)] [] n (W0 dy) g 0 0 P) : V miX12_marks (d + 1) 0 [(0, .ref 53), (1, I_ x1)] [] n (W0 dy) g 0 0 P := by
  refine v_iconst 0 rfl ?_
  refine v_istore_n 1 [1, 2, 0] rfl rfl (by decide) rfl ?_
  exact h
set_option maxHeartbeats 8000000 in
set_option maxRecDepth 4000 in
theorem bX12_marks_2 {d n : Nat} {dy : Nat → Shp} {g : Hp} {P : Pst} {x1 : Int} {x2 : Int} (hn : 100 ≤ n) (h : (i3 x2) ∧ (((g 53 5) ≤ x2) → P none n (W0 dy) g) ∧ ((x2 < (g 53 5)) → Runs miX12_isAbove d [.ref 53, I_ x1, I_ x2] n (W0 dy) g (fun v n' S' g' => V miX12_marks (d + 1) 21 [(0, .ref 53), (1, I_ x1), (2, I_ x2)] (v.toList ++ [I_ x2, .ref 75]) n' S' g' 0 0 P))) : V miX12_marks (d + 1) 2 [(0, .ref 53), (1, I_ x1), (2, I_ x2)] [] n (W0 dy) g 0 0 P := by
  refine v_iload_n 2 2 rfl rfl rfl ?_
  refine v_aload_n 3 0 rfl rfl rfl ?_
  refine v_gI 4 rfl fl12_169_11.r (al 53 rfl hn) (wk53 dy) (by decide) rfl (wc53_5 dy) (x := g 53 5) rfl ?_
  refine v_rng fun w1 => ?_
  have p2 : i3 (g 53 5) := rI w1 (q := 5) (al 53 rfl hn) (wk53 dy) rfl rfl
  have c3 := h.1
  have h := h.2
  refine v_icmp_ge 5 rfl (tgt := 28) rfl c3 p2 (fun q4 => ?_) (fun q4 => ?_)
  · have h := h.1 q4
    exact v_ret (v := none) 16 rfl (Nat.zero_le _) (Nat.zero_le _) trivial rfl h
  · have h := h.2 q4
    refine v_aload_n 6 0 rfl rfl rfl ?_
    refine v_gK 7 rfl fl12_74_11.r (al 53 rfl hn) (wk53 dy) (by decide) rfl (r := 75) (wc53_24 dy) ?_
    refine v_iload_n 8 2 rfl rfl rfl ?_
    refine v_aload_n 9 0 rfl rfl rfl ?_
    refine v_iload_n 10 1 rfl rfl rfl ?_
    refine v_iload_n 11 2 rfl rfl rfl ?_
    refine v_callV (st := [I_ x2, .ref 75]) [I_ x1, I_ x2] 12 rfl lv12_243_marks_11 (al 53 rfl hn) (wk53 dy) (by decide) rfl (Nat.le_refl _) (Nat.le_refl _) ?_
    exact h
set_option maxHeartbeats 8000000 in
set_option maxRecDepth 4000 in
theorem bX12_marks_21 {d n : Nat} {dy : Nat → Shp} {g : Hp} {P : Pst} {x1 : Int} {x2 : Int} {xs1 : Int} {xs2 : Int} (hn : 100 ≤ n) (h : (0 ≤ xs1 ∧ xs1 < 60) ∧ (i3 xs2) ∧ (xs2 = 0 ∨ xs2 = 1) ∧ V miX12_marks (d + 1) 2 [(0, .ref 53), (1, I_ x1), (2, I_ (x2 + 1))] [] n (W0 dy) (up2 g 75 xs1.toNat xs2) 0 0 P) : V miX12_marks (d + 1) 21 [(0, .ref 53), (1, I_ x1), (2, I_ x2)] [I_ xs2, I_ xs1, .ref 75] n (W0 dy) g 0 0 P := by
  have c1 := h.1
  have h := h.2
  have c2 := h.1
  have h := h.2
  have c3 := h.1
  have h := h.2
  refine v_zast (N := 60) 13 rfl (al 75 rfl hn) (wk75 dy) (wn75 dy) (by decide) c1 c3 c2 ?_
  refine v_iinc 14 2 [1, 2, 0] rfl rfl (by decide) rfl ?_
  refine v_goto 15 rfl (tgt := 2) rfl ?_
  exact h
theorem wX12_marks {d n : Nat} {dy : Nat → Shp} {g : Hp} {P : Pst} {x1 : Int} (hn : 100 ≤ n) (h : V miX12_marks (d + 1) 2 [(0, .ref 53), (1, I_ x1), (2, I_ 0)] [] n (W0 dy) g 0 0 P) : Runs miX12_marks (d + 1) [.ref 53, I_ x1] n (W0 dy) g P := Runs.of rfl rfl deX12_marks (Nat.le_of_ble_eq_true rfl) (bX12_marks_0 hn h)
theorem lv12_222_topped_11 : LkV miX12_topped miX12_isPart 222 1 11 := ⟨⟨⟨tbG_in (List.mem_append_right _ (List.mem_of_getElem? (i := 1400) (by decide +kernel))) rfl, tbG_in (List.mem_append_right _ (List.mem_of_getElem? (i := 9) (by decide +kernel))) rfl, tbG_in (List.mem_append_right _ (List.mem_of_getElem? (i := 1397) (by decide +kernel))) rfl⟩, ⟨by decide +kernel, by decide +kernel, by decide +kernel⟩, by decide⟩, tbG_in (List.mem_append_right _ (List.mem_of_getElem? (i := 1399) (by decide +kernel))) rfl, RX12, TX12, 58, rfl, tbG_in (List.mem_append_left _ (List.mem_of_getElem? (i := 56) (by decide +kernel))) rfl⟩
set_option maxHeartbeats 8000000 in
set_option maxRecDepth 4000 in
theorem bX12_topped_0 {d n : Nat} {dy : Nat → Shp} {g : Hp} {P : Pst} {x1 : Int} (hn : 100 ≤ n) (h : Runs miX12_isPart d [.ref 53, I_ x1] n (W0 dy) g (fun v n' S' g' => V miX12_topped (d + 1) 5 [(0, .ref 53), (1, I_ x1)] (v.toList ++ []) n' S' g' 0 0 P)) : V miX12_topped (d + 1) 0 [(0, .ref 53), (1, I_ x1)] [] n (W0 dy) g 0 0 P := by
  refine v_aload_n 0 0 rfl rfl rfl ?_
  refine v_iload_n 1 1 rfl rfl rfl ?_
  refine v_callV (st := []) [I_ x1] 2 rfl lv12_222_topped_11 (al 53 rfl hn) (wk53 dy) (by decide) rfl (Nat.le_refl _) (Nat.le_refl _) ?_
  exact h
set_option maxHeartbeats 8000000 in
set_option maxRecDepth 4000 in
theorem bX12_topped_5 {d n : Nat} {dy : Nat → Shp} {g : Hp} {P : Pst} {x1 : Int} {xs0 : Int} (hn : 100 ≤ n) (h : (i3 xs0) ∧ ((xs0 ≠ 0) → (0 ≤ x1 ∧ x1 < 60) ∧ (((g 60 x1.toNat) < 0) → P (some (I_ 0)) n (W0 dy) g) ∧ ((0 ≤ (g 60 x1.toNat)) → P (some (I_ 8)) n (W0 dy) g)) ∧ ((xs0 = 0) → P (some (I_ 2)) n (W0 dy) g)) : V miX12_topped (d + 1) 5 [(0, .ref 53), (1, I_ x1)] [I_ xs0] n (W0 dy) g 0 0 P := by
  have c1 := h.1
  have h := h.2
  refine v_if_ne 3 rfl (tgt := 12) rfl c1 (fun q2 => ?_) (fun q2 => ?_)
  · have h := h.1 q2
    refine v_aload_n 6 0 rfl rfl rfl ?_
    refine v_gK 7 rfl fl12_29_11.r (al 53 rfl hn) (wk53 dy) (by decide) rfl (r := 60) (wc53_9 dy) ?_
    refine v_iload_n 8 1 rfl rfl rfl ?_
    have c3 := h.1
    have h := h.2
    refine v_ia (N := 60) 9 rfl (al 60 rfl hn) (wk60 dy) (wn60 dy) (by decide) c3 (y := g 60 x1.toNat) rfl ?_
    refine v_rng fun w4 => ?_
    have p5 : i3 (g 60 x1.toNat) := rI w4 (q := x1.toNat) (al 60 rfl hn) (wk60 dy) rfl rfl
    refine v_if_lt 10 rfl (tgt := 26) rfl p5 (fun q6 => ?_) (fun q6 => ?_)
    · have h := h.1 q6
      refine v_iconst 13 rfl ?_
      exact v_ret (v := some (I_ 0)) 14 rfl (Nat.zero_le _) (Nat.zero_le _) trivial rfl h
    · have h := h.2 q6
      refine v_bipush 11 rfl (by decide) ?_
      refine v_goto 12 rfl (tgt := 27) rfl ?_
      exact v_ret (v := some (I_ 8)) 14 rfl (Nat.zero_le _) (Nat.zero_le _) trivial rfl h
  · have h := h.2 q2
    refine v_iconst 4 rfl ?_
    refine v_goto 5 rfl (tgt := 27) rfl ?_
    exact v_ret (v := some (I_ 2)) 14 rfl (Nat.zero_le _) (Nat.zero_le _) trivial rfl h
theorem wX12_topped {d n : Nat} {dy : Nat → Shp} {g : Hp} {P : Pst} {x1 : Int} (hn : 100 ≤ n) (h : Runs miX12_isPart d [.ref 53, I_ x1] n (W0 dy) g (fun v n' S' g' => V miX12_topped (d + 1) 5 [(0, .ref 53), (1, I_ x1)] (v.toList ++ []) n' S' g' 0 0 P)) : Runs miX12_topped (d + 1) [.ref 53, I_ x1] n (W0 dy) g P := Runs.of rfl rfl deX12_topped (Nat.le_of_ble_eq_true rfl) (bX12_topped_0 hn h)
theorem lv12_237_wrongRods_11 : LkV miX12_wrongRods miX12_isRod 237 1 11 := ⟨⟨⟨tbG_in (List.mem_append_right _ (List.mem_of_getElem? (i := 1428) (by decide +kernel))) rfl, tbG_in (List.mem_append_right _ (List.mem_of_getElem? (i := 9) (by decide +kernel))) rfl, tbG_in (List.mem_append_right _ (List.mem_of_getElem? (i := 1425) (by decide +kernel))) rfl⟩, ⟨by decide +kernel, by decide +kernel, by decide +kernel⟩, by decide⟩, tbG_in (List.mem_append_right _ (List.mem_of_getElem? (i := 1427) (by decide +kernel))) rfl, RX12, TX12, 58, rfl, tbG_in (List.mem_append_left _ (List.mem_of_getElem? (i := 60) (by decide +kernel))) rfl⟩
theorem lv12_271_wrongRods_11 : LkV miX12_wrongRods miX12_tilt 271 1 11 := ⟨⟨⟨tbG_in (List.mem_append_right _ (List.mem_of_getElem? (i := 1481) (by decide +kernel))) rfl, tbG_in (List.mem_append_right _ (List.mem_of_getElem? (i := 9) (by decide +kernel))) rfl, tbG_in (List.mem_append_right _ (List.mem_of_getElem? (i := 1478) (by decide +kernel))) rfl⟩, ⟨by decide +kernel, by decide +kernel, by decide +kernel⟩, by decide⟩, tbG_in (List.mem_append_right _ (List.mem_of_getElem? (i := 1480) (by decide +kernel))) rfl, RX12, TX12, 58, rfl, tbG_in (List.mem_append_left _ (List.mem_of_getElem? (i := 66) (by decide +kernel))) rfl⟩
set_option maxHeartbeats 8000000 in
set_option maxRecDepth 4000 in
theorem bX12_wrongRods_0 {d n : Nat} {dy : Nat → Shp} {g : Hp} {P : Pst}  (hn : 100 ≤ n) (h : V miX12_wrongRods (d + 1) 4 [(0, .ref 53), (1, I_ 0), (2, I_ 0)] [] n (W0 dy) g 0 0 P) : V miX12_wrongRods (d + 1) 0 [(0, .ref 53)] [] n (W0 dy) g 0 0 P := by
  refine v_iconst 0 rfl ?_
  refine v_istore_n 1 [1, 0] rfl rfl (by decide) rfl ?_
  refine v_iconst 2 rfl ?_
  refine v_istore_n 3 [1, 2, 0] rfl rfl (by decide) rfl ?_
  exact h
set_option maxHeartbeats 8000000 in
set_option maxRecDepth 4000 in
theorem bX12_wrongRods_4 {d n : Nat} {dy : Nat → Shp} {g : Hp} {P : Pst} {x1 : Int} {x2 : Int} (hn : 100 ≤ n) (h : (i3 x2) ∧ (((g 53 5) ≤ x2) → P (some (I_ x1)) n (W0 dy) g) ∧ ((x2 < (g 53 5)) → (0 ≤ x2 ∧ x2 < 60) ∧ (((g 75 x2.toNat) = 0) → V miX12_wrongRods (d + 1) 4 [(0, .ref 53), (1, I_ (x1 + 0)), (2, I_ (x2 + 1))] [] n (W0 dy) g 0 0 P) ∧ (((g 75 x2.toNat) ≠ 0) → Runs miX12_isRod d [.ref 53, I_ x2] n (W0 dy) g (fun v n' S' g' => V miX12_wrongRods (d + 1) 27 [(0, .ref 53), (1, I_ x1), (2, I_ x2)] (v.toList ++ [I_ x1]) n' S' g' 0 0 P)))) : V miX12_wrongRods (d + 1) 4 [(0, .ref 53), (1, I_ x1), (2, I_ x2)] [] n (W0 dy) g 0 0 P := by
  refine v_iload_n 4 2 rfl rfl rfl ?_
  refine v_aload_n 5 0 rfl rfl rfl ?_
  refine v_gI 6 rfl fl12_169_11.r (al 53 rfl hn) (wk53 dy) (by decide) rfl (wc53_5 dy) (x := g 53 5) rfl ?_
  refine v_rng fun w1 => ?_
  have p2 : i3 (g 53 5) := rI w1 (q := 5) (al 53 rfl hn) (wk53 dy) rfl rfl
  have c3 := h.1
  have h := h.2
  refine v_icmp_ge 7 rfl (tgt := 51) rfl c3 p2 (fun q4 => ?_) (fun q4 => ?_)
  · have h := h.1 q4
    refine v_iload_n 29 1 rfl rfl rfl ?_
    exact v_ret (v := some (I_ x1)) 30 rfl (Nat.zero_le _) (Nat.zero_le _) trivial rfl h
  · have h := h.2 q4
    refine v_iload_n 8 1 rfl rfl rfl ?_
    refine v_aload_n 9 0 rfl rfl rfl ?_
    refine v_gK 10 rfl fl12_74_11.r (al 53 rfl hn) (wk53 dy) (by decide) rfl (r := 75) (wc53_24 dy) ?_
    refine v_iload_n 11 2 rfl rfl rfl ?_
    have c5 := h.1
    have h := h.2
    refine v_za (N := 60) 12 rfl (al 75 rfl hn) (wk75 dy) (wn75 dy) (by decide) c5 (y := g 75 x2.toNat) rfl ?_
    refine v_rng fun w6 => ?_
    have p7 : i3 (g 75 x2.toNat) := rI w6 (q := x2.toNat) (al 75 rfl hn) (wk75 dy) rfl rfl
    refine v_if_eq 13 rfl (tgt := 42) rfl p7 (fun q8 => ?_) (fun q8 => ?_)
    · have h := h.1 q8
      refine v_iconst 24 rfl ?_
      refine v_iadd 25 rfl ?_
      refine v_istore_n 26 [1, 0, 2] rfl rfl (by decide) rfl ?_
      refine v_iinc 27 2 [1, 2, 0] rfl rfl (by decide) rfl ?_
      refine v_goto 28 rfl (tgt := 4) rfl ?_
      exact h
    · have h := h.2 q8
      refine v_aload_n 14 0 rfl rfl rfl ?_
      refine v_iload_n 15 2 rfl rfl rfl ?_
      refine v_callV (st := [I_ x1]) [I_ x2] 16 rfl lv12_237_wrongRods_11 (al 53 rfl hn) (wk53 dy) (by decide) rfl (Nat.le_refl _) (Nat.le_refl _) ?_
      exact h
set_option maxHeartbeats 8000000 in
set_option maxRecDepth 4000 in
theorem bX12_wrongRods_27 {d n : Nat} {dy : Nat → Shp} {g : Hp} {P : Pst} {x1 : Int} {x2 : Int} {xs0 : Int} {xs1 : Int} (hn : 100 ≤ n) (h : (i3 xs1) ∧ ((xs1 = 0) → V miX12_wrongRods (d + 1) 4 [(0, .ref 53), (1, I_ (xs0 + 0)), (2, I_ (x2 + 1))] [] n (W0 dy) g 0 0 P) ∧ ((xs1 ≠ 0) → Runs miX12_tilt d [.ref 53, I_ x2] n (W0 dy) g (fun v n' S' g' => V miX12_wrongRods (d + 1) 35 [(0, .ref 53), (1, I_ x1), (2, I_ x2)] (v.toList ++ [I_ xs0]) n' S' g' 0 0 P))) : V miX12_wrongRods (d + 1) 27 [(0, .ref 53), (1, I_ x1), (2, I_ x2)] [I_ xs1, I_ xs0] n (W0 dy) g 0 0 P := by
  have c1 := h.1
  have h := h.2
  refine v_if_eq 17 rfl (tgt := 42) rfl c1 (fun q2 => ?_) (fun q2 => ?_)
  · have h := h.1 q2
    refine v_iconst 24 rfl ?_
    refine v_iadd 25 rfl ?_
    refine v_istore_n 26 [1, 0, 2] rfl rfl (by decide) rfl ?_
    refine v_iinc 27 2 [1, 2, 0] rfl rfl (by decide) rfl ?_
    refine v_goto 28 rfl (tgt := 4) rfl ?_
    exact h
  · have h := h.2 q2
    refine v_aload_n 18 0 rfl rfl rfl ?_
    refine v_iload_n 19 2 rfl rfl rfl ?_
    refine v_callV (st := [I_ xs0]) [I_ x2] 20 rfl lv12_271_wrongRods_11 (al 53 rfl hn) (wk53 dy) (by decide) rfl (Nat.le_refl _) (Nat.le_refl _) ?_
    exact h
set_option maxHeartbeats 8000000 in
set_option maxRecDepth 4000 in
theorem bX12_wrongRods_35 {d n : Nat} {dy : Nat → Shp} {g : Hp} {P : Pst} {x1 : Int} {x2 : Int} {xs0 : Int} {xs1 : Int} (hn : 100 ≤ n) (h : (i3 xs1) ∧ ((xs1 = 0) → V miX12_wrongRods (d + 1) 4 [(0, .ref 53), (1, I_ (xs0 + 0)), (2, I_ (x2 + 1))] [] n (W0 dy) g 0 0 P) ∧ ((xs1 ≠ 0) → V miX12_wrongRods (d + 1) 4 [(0, .ref 53), (1, I_ (xs0 + 1)), (2, I_ (x2 + 1))] [] n (W0 dy) g 0 0 P)) : V miX12_wrongRods (d + 1) 35 [(0, .ref 53), (1, I_ x1), (2, I_ x2)] [I_ xs1, I_ xs0] n (W0 dy) g 0 0 P := by
  have c1 := h.1
  have h := h.2
  refine v_if_eq 21 rfl (tgt := 42) rfl c1 (fun q2 => ?_) (fun q2 => ?_)
  · have h := h.1 q2
    refine v_iconst 24 rfl ?_
    refine v_iadd 25 rfl ?_
    refine v_istore_n 26 [1, 0, 2] rfl rfl (by decide) rfl ?_
    refine v_iinc 27 2 [1, 2, 0] rfl rfl (by decide) rfl ?_
    refine v_goto 28 rfl (tgt := 4) rfl ?_
    exact h
  · have h := h.2 q2
    refine v_iconst 22 rfl ?_
    refine v_goto 23 rfl (tgt := 43) rfl ?_
    refine v_iadd 25 rfl ?_
    refine v_istore_n 26 [1, 0, 2] rfl rfl (by decide) rfl ?_
    refine v_iinc 27 2 [1, 2, 0] rfl rfl (by decide) rfl ?_
    refine v_goto 28 rfl (tgt := 4) rfl ?_
    exact h
theorem wX12_wrongRods {d n : Nat} {dy : Nat → Shp} {g : Hp} {P : Pst}  (hn : 100 ≤ n) (h : V miX12_wrongRods (d + 1) 4 [(0, .ref 53), (1, I_ 0), (2, I_ 0)] [] n (W0 dy) g 0 0 P) : Runs miX12_wrongRods (d + 1) [.ref 53] n (W0 dy) g P := Runs.of rfl rfl deX12_wrongRods (Nat.le_of_ble_eq_true rfl) (bX12_wrongRods_0 hn h)
theorem lv12_274_wrong_11 : LkV miX12_wrong miX12_topped 274 1 11 := ⟨⟨⟨tbG_in (List.mem_append_right _ (List.mem_of_getElem? (i := 1501) (by decide +kernel))) rfl, tbG_in (List.mem_append_right _ (List.mem_of_getElem? (i := 9) (by decide +kernel))) rfl, tbG_in (List.mem_append_right _ (List.mem_of_getElem? (i := 1498) (by decide +kernel))) rfl⟩, ⟨by decide +kernel, by decide +kernel, by decide +kernel⟩, by decide⟩, tbG_in (List.mem_append_right _ (List.mem_of_getElem? (i := 1500) (by decide +kernel))) rfl, RX12, TX12, 58, rfl, tbG_in (List.mem_append_left _ (List.mem_of_getElem? (i := 70) (by decide +kernel))) rfl⟩
theorem lv12_268_wrong_11 : LkV miX12_wrong miX12_allThere 268 0 11 := ⟨⟨⟨tbG_in (List.mem_append_right _ (List.mem_of_getElem? (i := 1465) (by decide +kernel))) rfl, tbG_in (List.mem_append_right _ (List.mem_of_getElem? (i := 9) (by decide +kernel))) rfl, tbG_in (List.mem_append_right _ (List.mem_of_getElem? (i := 1462) (by decide +kernel))) rfl⟩, ⟨by decide +kernel, by decide +kernel, by decide +kernel⟩, by decide⟩, tbG_in (List.mem_append_right _ (List.mem_of_getElem? (i := 1464) (by decide +kernel))) rfl, RX12, TX12, 58, rfl, tbG_in (List.mem_append_left _ (List.mem_of_getElem? (i := 63) (by decide +kernel))) rfl⟩
theorem lv12_277_wrong_11 : LkV miX12_wrong miX12_marks 277 1 11 := ⟨⟨⟨tbG_in (List.mem_append_right _ (List.mem_of_getElem? (i := 1505) (by decide +kernel))) rfl, tbG_in (List.mem_append_right _ (List.mem_of_getElem? (i := 9) (by decide +kernel))) rfl, tbG_in (List.mem_append_right _ (List.mem_of_getElem? (i := 1502) (by decide +kernel))) rfl⟩, ⟨by decide +kernel, by decide +kernel, by decide +kernel⟩, by decide⟩, tbG_in (List.mem_append_right _ (List.mem_of_getElem? (i := 1504) (by decide +kernel))) rfl, RX12, TX12, 58, rfl, tbG_in (List.mem_append_left _ (List.mem_of_getElem? (i := 71) (by decide +kernel))) rfl⟩
theorem lv12_280_wrong_11 : LkV miX12_wrong miX12_wrongRods 280 0 11 := ⟨⟨⟨tbG_in (List.mem_append_right _ (List.mem_of_getElem? (i := 1509) (by decide +kernel))) rfl, tbG_in (List.mem_append_right _ (List.mem_of_getElem? (i := 9) (by decide +kernel))) rfl, tbG_in (List.mem_append_right _ (List.mem_of_getElem? (i := 1506) (by decide +kernel))) rfl⟩, ⟨by decide +kernel, by decide +kernel, by decide +kernel⟩, by decide⟩, tbG_in (List.mem_append_right _ (List.mem_of_getElem? (i := 1508) (by decide +kernel))) rfl, RX12, TX12, 58, rfl, tbG_in (List.mem_append_left _ (List.mem_of_getElem? (i := 72) (by decide +kernel))) rfl⟩
set_option maxHeartbeats 8000000 in
set_option maxRecDepth 4000 in
theorem bX12_wrong_0 {d n : Nat} {dy : Nat → Shp} {g : Hp} {P : Pst} {x1 : Int} (hn : 100 ≤ n) (h : Runs miX12_topped d [.ref 53, I_ x1] n (W0 dy) (up2 g 53 1 0) (fun v n' S' g' => V miX12_wrong (d + 1) 11 [(0, .ref 53), (1, I_ x1)] (v.toList ++ [.ref 53]) n' S' g' 0 0 P)) : V miX12_wrong (d + 1) 0 [(0, .ref 53), (1, I_ x1)] [] n (W0 dy) g 0 0 P := by
  refine v_aload_n 0 0 rfl rfl rfl ?_
  refine v_iconst 1 rfl ?_
  refine v_putI 2 rfl fl12_148_11 (al 53 rfl hn) (wk53 dy) (by decide) rfl (wc53_1 dy) (by decide) ?_
  refine v_aload_n 3 0 rfl rfl rfl ?_
  refine v_aload_n 4 0 rfl rfl rfl ?_
  refine v_iload_n 5 1 rfl rfl rfl ?_
  refine v_callV (st := [.ref 53]) [I_ x1] 6 rfl lv12_274_wrong_11 (al 53 rfl hn) (wk53 dy) (by decide) rfl (Nat.le_refl _) (Nat.le_refl _) ?_
  exact h
set_option maxHeartbeats 8000000 in
set_option maxRecDepth 4000 in
theorem bX12_wrong_11 {d n : Nat} {dy : Nat → Shp} {g : Hp} {P : Pst} {x1 : Int} {xs1 : Int} (hn : 100 ≤ n) (h : (i3 xs1) ∧ ((xs1 ≤ 0) → Runs miX12_allThere d [.ref 53] n (W0 dy) (up2 g 53 0 xs1) (fun v n' S' g' => V miX12_wrong (d + 1) 27 [(0, .ref 53), (1, I_ x1)] (v.toList ++ []) n' S' g' 0 0 P)) ∧ ((0 < xs1) → P (some (I_ ((-1)))) n (W0 dy) (up2 g 53 0 xs1))) : V miX12_wrong (d + 1) 11 [(0, .ref 53), (1, I_ x1)] [I_ xs1, .ref 53] n (W0 dy) g 0 0 P := by
  have c1 := h.1
  have h := h.2
  refine v_putI 7 rfl fl12_152_11 (al 53 rfl hn) (wk53 dy) (by decide) rfl (wc53_0 dy) c1 ?_
  refine v_aload_n 8 0 rfl rfl rfl ?_
  refine v_gI 9 rfl fl12_152_11.r (al 53 rfl hn) (wk53 dy) (by decide) rfl (wc53_0 dy) (x := xs1) rfl ?_
  refine v_rng fun w2 => ?_
  have p3 : i3 (xs1) := rI w2 (q := 0) (al 53 rfl hn) (wk53 dy) rfl rfl
  refine v_if_le 10 rfl (tgt := 23) rfl p3 (fun q4 => ?_) (fun q4 => ?_)
  · have h := h.1 q4
    refine v_aload_n 13 0 rfl rfl rfl ?_
    refine v_callV (st := []) [] 14 rfl lv12_268_wrong_11 (al 53 rfl hn) (wk53 dy) (by decide) rfl (Nat.le_refl _) (Nat.le_refl _) ?_
    exact h
  · have h := h.2 q4
    refine v_iconst 11 rfl ?_
    exact v_ret (v := some (I_ ((-1)))) 12 rfl (Nat.zero_le _) (Nat.zero_le _) trivial rfl h
set_option maxHeartbeats 8000000 in
set_option maxRecDepth 4000 in
theorem bX12_wrong_27 {d n : Nat} {dy : Nat → Shp} {g : Hp} {P : Pst} {x1 : Int} (hn : 100 ≤ n) (h : Runs miX12_marks d [.ref 53, I_ x1] n (W0 dy) g (fun v n' S' g' => V miX12_wrong (d + 1) 32 [(0, .ref 53), (1, I_ x1)] (v.toList ++ []) n' S' g' 0 0 P)) : V miX12_wrong (d + 1) 27 [(0, .ref 53), (1, I_ x1)] [] n (W0 dy) g 0 0 P := by
  refine v_aload_n 15 0 rfl rfl rfl ?_
  refine v_iload_n 16 1 rfl rfl rfl ?_
  refine v_callV (st := []) [I_ x1] 17 rfl lv12_277_wrong_11 (al 53 rfl hn) (wk53 dy) (by decide) rfl (Nat.le_refl _) (Nat.le_refl _) ?_
  exact h
set_option maxHeartbeats 8000000 in
set_option maxRecDepth 4000 in
theorem bX12_wrong_32 {d n : Nat} {dy : Nat → Shp} {g : Hp} {P : Pst} {x1 : Int} (hn : 100 ≤ n) (h : Runs miX12_wrongRods d [.ref 53] n (W0 dy) g (fun v n' S' g' => V miX12_wrong (d + 1) 36 [(0, .ref 53), (1, I_ x1)] (v.toList ++ []) n' S' g' 0 0 P)) : V miX12_wrong (d + 1) 32 [(0, .ref 53), (1, I_ x1)] [] n (W0 dy) g 0 0 P := by
  refine v_aload_n 18 0 rfl rfl rfl ?_
  refine v_callV (st := []) [] 19 rfl lv12_280_wrong_11 (al 53 rfl hn) (wk53 dy) (by decide) rfl (Nat.le_refl _) (Nat.le_refl _) ?_
  exact h
set_option maxHeartbeats 8000000 in
set_option maxRecDepth 4000 in
theorem bX12_wrong_36 {d n : Nat} {dy : Nat → Shp} {g : Hp} {P : Pst} {x1 : Int} {xs0 : Int} (hn : 100 ≤ n) (h : P (some (I_ xs0)) n (W0 dy) g) : V miX12_wrong (d + 1) 36 [(0, .ref 53), (1, I_ x1)] [I_ xs0] n (W0 dy) g 0 0 P := by
  exact v_ret (v := some (I_ xs0)) 20 rfl (Nat.zero_le _) (Nat.zero_le _) trivial rfl h
theorem wX12_wrong {d n : Nat} {dy : Nat → Shp} {g : Hp} {P : Pst} {x1 : Int} (hn : 100 ≤ n) (h : Runs miX12_topped d [.ref 53, I_ x1] n (W0 dy) (up2 g 53 1 0) (fun v n' S' g' => V miX12_wrong (d + 1) 11 [(0, .ref 53), (1, I_ x1)] (v.toList ++ [.ref 53]) n' S' g' 0 0 P)) : Runs miX12_wrong (d + 1) [.ref 53, I_ x1] n (W0 dy) g P := Runs.of rfl rfl deX12_wrong (Nat.le_of_ble_eq_true rfl) (bX12_wrong_0 hn h)
theorem lv12_262_canBeLevel_11 : LkV miX12_canBeLevel miX12_levelP 262 1 11 := ⟨⟨⟨tbG_in (List.mem_append_right _ (List.mem_of_getElem? (i := 1485) (by decide +kernel))) rfl, tbG_in (List.mem_append_right _ (List.mem_of_getElem? (i := 9) (by decide +kernel))) rfl, tbG_in (List.mem_append_right _ (List.mem_of_getElem? (i := 1482) (by decide +kernel))) rfl⟩, ⟨by decide +kernel, by decide +kernel, by decide +kernel⟩, by decide⟩, tbG_in (List.mem_append_right _ (List.mem_of_getElem? (i := 1484) (by decide +kernel))) rfl, RX12, TX12, 58, rfl, tbG_in (List.mem_append_left _ (List.mem_of_getElem? (i := 67) (by decide +kernel))) rfl⟩
theorem lv12_265_canBeLevel_11 : LkV miX12_canBeLevel miX12_levelQ 265 1 11 := ⟨⟨⟨tbG_in (List.mem_append_right _ (List.mem_of_getElem? (i := 1493) (by decide +kernel))) rfl, tbG_in (List.mem_append_right _ (List.mem_of_getElem? (i := 9) (by decide +kernel))) rfl, tbG_in (List.mem_append_right _ (List.mem_of_getElem? (i := 1490) (by decide +kernel))) rfl⟩, ⟨by decide +kernel, by decide +kernel, by decide +kernel⟩, by decide⟩, tbG_in (List.mem_append_right _ (List.mem_of_getElem? (i := 1492) (by decide +kernel))) rfl, RX12, TX12, 58, rfl, tbG_in (List.mem_append_left _ (List.mem_of_getElem? (i := 69) (by decide +kernel))) rfl⟩
set_option maxHeartbeats 8000000 in
set_option maxRecDepth 4000 in
theorem bX12_canBeLevel_0 {d n : Nat} {dy : Nat → Shp} {g : Hp} {P : Pst} {x1 : Int} (hn : 100 ≤ n) (h : Runs miX12_levelP d [.ref 53, I_ x1] n (W0 dy) g (fun v n' S' g' => V miX12_canBeLevel (d + 1) 5 [(0, .ref 53), (1, I_ x1)] (v.toList ++ []) n' S' g' 0 0 P)) : V miX12_canBeLevel (d + 1) 0 [(0, .ref 53), (1, I_ x1)] [] n (W0 dy) g 0 0 P := by
  refine v_aload_n 0 0 rfl rfl rfl ?_
  refine v_iload_n 1 1 rfl rfl rfl ?_
  refine v_callV (st := []) [I_ x1] 2 rfl lv12_262_canBeLevel_11 (al 53 rfl hn) (wk53 dy) (by decide) rfl (Nat.le_refl _) (Nat.le_refl _) ?_
  exact h
set_option maxHeartbeats 8000000 in
set_option maxRecDepth 4000 in
theorem bX12_canBeLevel_5 {d n : Nat} {dy : Nat → Shp} {g : Hp} {P : Pst} {x1 : Int} {xs0 : Int} (hn : 100 ≤ n) (h : (i6 xs0) ∧ ((xs0 ≤ 0) → P (some (I_ 0)) n (W0 dy) g) ∧ ((0 < xs0) → Runs miX12_levelP d [.ref 53, I_ x1] n (W0 dy) g (fun v n' S' g' => V miX12_canBeLevel (d + 1) 15 [(0, .ref 53), (1, I_ x1)] (v.toList ++ []) n' S' g' 0 0 P))) : V miX12_canBeLevel (d + 1) 5 [(0, .ref 53), (1, I_ x1)] [L_ xs0] n (W0 dy) g 0 0 P := by
  refine v_lconst (v := 0) 3 rfl (by decide) ?_
  have c1 := h.1
  have h := h.2
  refine v_lif_le 4 rfl rfl (tgt := 28) rfl c1 (by decide) (fun q2 => ?_) (fun q2 => ?_)
  · have h := h.1 q2
    refine v_iconst 16 rfl ?_
    exact v_ret (v := some (I_ 0)) 17 rfl (Nat.zero_le _) (Nat.zero_le _) (Or.inl rfl) rfl h
  · have h := h.2 q2
    refine v_aload_n 6 0 rfl rfl rfl ?_
    refine v_iload_n 7 1 rfl rfl rfl ?_
    refine v_callV (st := []) [I_ x1] 8 rfl lv12_262_canBeLevel_11 (al 53 rfl hn) (wk53 dy) (by decide) rfl (Nat.le_refl _) (Nat.le_refl _) ?_
    exact h
set_option maxHeartbeats 8000000 in
set_option maxRecDepth 4000 in
theorem bX12_canBeLevel_15 {d n : Nat} {dy : Nat → Shp} {g : Hp} {P : Pst} {x1 : Int} {xs0 : Int} (hn : 100 ≤ n) (h : Runs miX12_levelQ d [.ref 53, I_ x1] n (W0 dy) g (fun v n' S' g' => V miX12_canBeLevel (d + 1) 20 [(0, .ref 53), (1, I_ x1)] (v.toList ++ [L_ xs0]) n' S' g' 0 0 P)) : V miX12_canBeLevel (d + 1) 15 [(0, .ref 53), (1, I_ x1)] [L_ xs0] n (W0 dy) g 0 0 P := by
  refine v_aload_n 9 0 rfl rfl rfl ?_
  refine v_iload_n 10 1 rfl rfl rfl ?_
  refine v_callV (st := [L_ xs0]) [I_ x1] 11 rfl lv12_265_canBeLevel_11 (al 53 rfl hn) (wk53 dy) (by decide) rfl (Nat.le_refl _) (Nat.le_refl _) ?_
  exact h
set_option maxHeartbeats 8000000 in
set_option maxRecDepth 4000 in
theorem bX12_canBeLevel_20 {d n : Nat} {dy : Nat → Shp} {g : Hp} {P : Pst} {x1 : Int} {xs0 : Int} {xs1 : Int} (hn : 100 ≤ n) (h : (i6 xs0) ∧ (i6 xs1) ∧ ((xs1 ≤ xs0) → P (some (I_ 0)) n (W0 dy) g) ∧ ((xs0 < xs1) → P (some (I_ 1)) n (W0 dy) g)) : V miX12_canBeLevel (d + 1) 20 [(0, .ref 53), (1, I_ x1)] [L_ xs1, L_ xs0] n (W0 dy) g 0 0 P := by
  have c1 := h.1
  have h := h.2
  have c2 := h.1
  have h := h.2
  refine v_lif_ge 12 rfl rfl (tgt := 28) rfl c1 c2 (fun q3 => ?_) (fun q3 => ?_)
  · have h := h.1 q3
    refine v_iconst 16 rfl ?_
    exact v_ret (v := some (I_ 0)) 17 rfl (Nat.zero_le _) (Nat.zero_le _) (Or.inl rfl) rfl h
  · have h := h.2 q3
    refine v_iconst 14 rfl ?_
    refine v_goto 15 rfl (tgt := 29) rfl ?_
    exact v_ret (v := some (I_ 1)) 17 rfl (Nat.zero_le _) (Nat.zero_le _) (Or.inr rfl) rfl h
theorem wX12_canBeLevel {d n : Nat} {dy : Nat → Shp} {g : Hp} {P : Pst} {x1 : Int} (hn : 100 ≤ n) (h : Runs miX12_levelP d [.ref 53, I_ x1] n (W0 dy) g (fun v n' S' g' => V miX12_canBeLevel (d + 1) 5 [(0, .ref 53), (1, I_ x1)] (v.toList ++ []) n' S' g' 0 0 P)) : Runs miX12_canBeLevel (d + 1) [.ref 53, I_ x1] n (W0 dy) g P := Runs.of rfl rfl deX12_canBeLevel (Nat.le_of_ble_eq_true rfl) (bX12_canBeLevel_0 hn h)
theorem lv12_240_tie_11 : LkV miX12_tie miX12_rodded 240 1 11 := ⟨⟨⟨tbG_in (List.mem_append_right _ (List.mem_of_getElem? (i := 1424) (by decide +kernel))) rfl, tbG_in (List.mem_append_right _ (List.mem_of_getElem? (i := 9) (by decide +kernel))) rfl, tbG_in (List.mem_append_right _ (List.mem_of_getElem? (i := 1421) (by decide +kernel))) rfl⟩, ⟨by decide +kernel, by decide +kernel, by decide +kernel⟩, by decide⟩, tbG_in (List.mem_append_right _ (List.mem_of_getElem? (i := 1423) (by decide +kernel))) rfl, RX12, TX12, 58, rfl, tbG_in (List.mem_append_left _ (List.mem_of_getElem? (i := 59) (by decide +kernel))) rfl⟩
theorem lv12_174_tie_11 : LkV miX12_tie miX12_refuse 174 1 11 := ⟨⟨⟨tbG_in (List.mem_append_right _ (List.mem_of_getElem? (i := 1351) (by decide +kernel))) rfl, tbG_in (List.mem_append_right _ (List.mem_of_getElem? (i := 9) (by decide +kernel))) rfl, tbG_in (List.mem_append_right _ (List.mem_of_getElem? (i := 1348) (by decide +kernel))) rfl⟩, ⟨by decide +kernel, by decide +kernel, by decide +kernel⟩, by decide⟩, tbG_in (List.mem_append_right _ (List.mem_of_getElem? (i := 1350) (by decide +kernel))) rfl, RX12, TX12, 58, rfl, tbG_in (List.mem_append_left _ (List.mem_of_getElem? (i := 50) (by decide +kernel))) rfl⟩
theorem lv12_268_tie_11 : LkV miX12_tie miX12_allThere 268 0 11 := ⟨⟨⟨tbG_in (List.mem_append_right _ (List.mem_of_getElem? (i := 1465) (by decide +kernel))) rfl, tbG_in (List.mem_append_right _ (List.mem_of_getElem? (i := 9) (by decide +kernel))) rfl, tbG_in (List.mem_append_right _ (List.mem_of_getElem? (i := 1462) (by decide +kernel))) rfl⟩, ⟨by decide +kernel, by decide +kernel, by decide +kernel⟩, by decide⟩, tbG_in (List.mem_append_right _ (List.mem_of_getElem? (i := 1464) (by decide +kernel))) rfl, RX12, TX12, 58, rfl, tbG_in (List.mem_append_left _ (List.mem_of_getElem? (i := 63) (by decide +kernel))) rfl⟩
theorem lv12_284_tie_11 : LkV miX12_tie miX12_canBeLevel 284 1 11 := ⟨⟨⟨tbG_in (List.mem_append_right _ (List.mem_of_getElem? (i := 1517) (by decide +kernel))) rfl, tbG_in (List.mem_append_right _ (List.mem_of_getElem? (i := 9) (by decide +kernel))) rfl, tbG_in (List.mem_append_right _ (List.mem_of_getElem? (i := 1514) (by decide +kernel))) rfl⟩, ⟨by decide +kernel, by decide +kernel, by decide +kernel⟩, by decide⟩, tbG_in (List.mem_append_right _ (List.mem_of_getElem? (i := 1516) (by decide +kernel))) rfl, RX12, TX12, 58, rfl, tbG_in (List.mem_append_left _ (List.mem_of_getElem? (i := 73) (by decide +kernel))) rfl⟩
theorem lv12_262_tie_11 : LkV miX12_tie miX12_levelP 262 1 11 := ⟨⟨⟨tbG_in (List.mem_append_right _ (List.mem_of_getElem? (i := 1485) (by decide +kernel))) rfl, tbG_in (List.mem_append_right _ (List.mem_of_getElem? (i := 9) (by decide +kernel))) rfl, tbG_in (List.mem_append_right _ (List.mem_of_getElem? (i := 1482) (by decide +kernel))) rfl⟩, ⟨by decide +kernel, by decide +kernel, by decide +kernel⟩, by decide⟩, tbG_in (List.mem_append_right _ (List.mem_of_getElem? (i := 1484) (by decide +kernel))) rfl, RX12, TX12, 58, rfl, tbG_in (List.mem_append_left _ (List.mem_of_getElem? (i := 67) (by decide +kernel))) rfl⟩
theorem lv12_265_tie_11 : LkV miX12_tie miX12_levelQ 265 1 11 := ⟨⟨⟨tbG_in (List.mem_append_right _ (List.mem_of_getElem? (i := 1493) (by decide +kernel))) rfl, tbG_in (List.mem_append_right _ (List.mem_of_getElem? (i := 9) (by decide +kernel))) rfl, tbG_in (List.mem_append_right _ (List.mem_of_getElem? (i := 1490) (by decide +kernel))) rfl⟩, ⟨by decide +kernel, by decide +kernel, by decide +kernel⟩, by decide⟩, tbG_in (List.mem_append_right _ (List.mem_of_getElem? (i := 1492) (by decide +kernel))) rfl, RX12, TX12, 58, rfl, tbG_in (List.mem_append_left _ (List.mem_of_getElem? (i := 69) (by decide +kernel))) rfl⟩
theorem ls12_227_tie : LkS miX12_tie miX12_common 227 2 := ⟨⟨⟨tbG_in (List.mem_append_right _ (List.mem_of_getElem? (i := 1404) (by decide +kernel))) rfl, tbG_in (List.mem_append_right _ (List.mem_of_getElem? (i := 9) (by decide +kernel))) rfl, tbG_in (List.mem_append_right _ (List.mem_of_getElem? (i := 1402) (by decide +kernel))) rfl⟩, ⟨by decide +kernel, by decide +kernel, by decide +kernel⟩, by decide⟩, tbG_in (List.mem_append_right _ (List.mem_of_getElem? (i := 1403) (by decide +kernel))) rfl⟩
set_option maxHeartbeats 8000000 in
set_option maxRecDepth 4000 in
theorem bX12_tie_0 {d n : Nat} {dy : Nat → Shp} {g : Hp} {P : Pst} {x1 : Int} {x2 : Int} (hn : 100 ≤ n) (h : Runs miX12_rodded d [.ref 53, I_ x1] n (W0 dy) (up2 g 53 1 0) (fun v n' S' g' => V miX12_tie (d + 1) 11 [(0, .ref 53), (1, I_ x1), (2, I_ x2)] (v.toList ++ [.ref 53]) n' S' g' 0 0 P)) : V miX12_tie (d + 1) 0 [(0, .ref 53), (1, I_ x1), (2, I_ x2)] [] n (W0 dy) g 0 0 P := by
  refine v_aload_n 0 0 rfl rfl rfl ?_
  refine v_iconst 1 rfl ?_
  refine v_putI 2 rfl fl12_148_11 (al 53 rfl hn) (wk53 dy) (by decide) rfl (wc53_1 dy) (by decide) ?_
  refine v_aload_n 3 0 rfl rfl rfl ?_
  refine v_aload_n 4 0 rfl rfl rfl ?_
  refine v_iload_n 5 1 rfl rfl rfl ?_
  refine v_callV (st := [.ref 53]) [I_ x1] 6 rfl lv12_240_tie_11 (al 53 rfl hn) (wk53 dy) (by decide) rfl (Nat.le_refl _) (Nat.le_refl _) ?_
  exact h
set_option maxHeartbeats 8000000 in
set_option maxRecDepth 4000 in
theorem bX12_tie_11 {d n : Nat} {dy : Nat → Shp} {g : Hp} {P : Pst} {x1 : Int} {x2 : Int} {xs1 : Int} (hn : 100 ≤ n) (h : (i3 xs1) ∧ ((xs1 ≤ 0) → (i3 x2) ∧ ((x2 < 0) → Runs miX12_refuse d [.ref 53, I_ 7] n (W0 dy) (up2 g 53 0 xs1) (fun v n' S' g' => V miX12_tie (d + 1) 40 [(0, .ref 53), (1, I_ x1), (2, I_ x2)] (v.toList ++ []) n' S' g' 0 0 P)) ∧ ((0 ≤ x2) → ((x2 ≤ 1) → Runs miX12_allThere d [.ref 53] n (W0 dy) (up2 g 53 0 xs1) (fun v n' S' g' => V miX12_tie (d + 1) 46 [(0, .ref 53), (1, I_ x1), (2, I_ x2)] (v.toList ++ []) n' S' g' 0 0 P)) ∧ ((1 < x2) → Runs miX12_refuse d [.ref 53, I_ 7] n (W0 dy) (up2 g 53 0 xs1) (fun v n' S' g' => V miX12_tie (d + 1) 40 [(0, .ref 53), (1, I_ x1), (2, I_ x2)] (v.toList ++ []) n' S' g' 0 0 P)))) ∧ ((0 < xs1) → P (some (L_ ((-1)))) n (W0 dy) (up2 g 53 0 xs1))) : V miX12_tie (d + 1) 11 [(0, .ref 53), (1, I_ x1), (2, I_ x2)] [I_ xs1, .ref 53] n (W0 dy) g 0 0 P := by
  have c1 := h.1
  have h := h.2
  refine v_putI 7 rfl fl12_152_11 (al 53 rfl hn) (wk53 dy) (by decide) rfl (wc53_0 dy) c1 ?_
  refine v_aload_n 8 0 rfl rfl rfl ?_
  refine v_gI 9 rfl fl12_152_11.r (al 53 rfl hn) (wk53 dy) (by decide) rfl (wc53_0 dy) (x := xs1) rfl ?_
  refine v_rng fun w2 => ?_
  have p3 : i3 (xs1) := rI w2 (q := 0) (al 53 rfl hn) (wk53 dy) rfl rfl
  refine v_if_le 10 rfl (tgt := 25) rfl p3 (fun q4 => ?_) (fun q4 => ?_)
  · have h := h.1 q4
    refine v_iload_n 13 2 rfl rfl rfl ?_
    have c5 := h.1
    have h := h.2
    refine v_if_lt 14 rfl (tgt := 34) rfl c5 (fun q6 => ?_) (fun q6 => ?_)
    · have h := h.1 q6
      refine v_aload_n 18 0 rfl rfl rfl ?_
      refine v_bipush 19 rfl (by decide) ?_
      refine v_callV (st := []) [I_ 7] 20 rfl lv12_174_tie_11 (al 53 rfl hn) (wk53 dy) (by decide) rfl (Nat.le_refl _) (Nat.le_refl _) ?_
      exact h
    · have h := h.2 q6
      refine v_iload_n 15 2 rfl rfl rfl ?_
      refine v_iconst 16 rfl ?_
      refine v_icmp_le 17 rfl (tgt := 42) rfl c5 (by decide) (fun q7 => ?_) (fun q7 => ?_)
      · have h := h.1 q7
        refine v_aload_n 23 0 rfl rfl rfl ?_
        refine v_callV (st := []) [] 24 rfl lv12_268_tie_11 (al 53 rfl hn) (wk53 dy) (by decide) rfl (Nat.le_refl _) (Nat.le_refl _) ?_
        exact h
      · have h := h.2 q7
        refine v_aload_n 18 0 rfl rfl rfl ?_
        refine v_bipush 19 rfl (by decide) ?_
        refine v_callV (st := []) [I_ 7] 20 rfl lv12_174_tie_11 (al 53 rfl hn) (wk53 dy) (by decide) rfl (Nat.le_refl _) (Nat.le_refl _) ?_
        exact h
  · have h := h.2 q4
    refine v_ldc2 (v := (-1)) 11 rfl (tbG_in (List.mem_append_right _ (List.mem_of_getElem? (i := 1334) (by decide +kernel))) rfl) ?_
    exact v_ret (v := some (L_ ((-1)))) 12 rfl (Nat.zero_le _) (Nat.zero_le _) trivial rfl h
set_option maxHeartbeats 8000000 in
set_option maxRecDepth 4000 in
theorem bX12_tie_40 {d n : Nat} {dy : Nat → Shp} {g : Hp} {P : Pst} {x1 : Int} {x2 : Int} {xs0 : Int} (hn : 100 ≤ n) (h : (i3 xs0) ∧ P (some (L_ xs0)) n (W0 dy) g) : V miX12_tie (d + 1) 40 [(0, .ref 53), (1, I_ x1), (2, I_ x2)] [I_ xs0] n (W0 dy) g 0 0 P := by
  have c1 := h.1
  have h := h.2
  refine v_i2l 21 rfl c1 ?_
  exact v_ret (v := some (L_ xs0)) 22 rfl (Nat.zero_le _) (Nat.zero_le _) trivial rfl h
set_option maxHeartbeats 8000000 in
set_option maxRecDepth 4000 in
theorem bX12_tie_46 {d n : Nat} {dy : Nat → Shp} {g : Hp} {P : Pst} {x1 : Int} {x2 : Int} (hn : 100 ≤ n) (h : Runs miX12_canBeLevel d [.ref 53, I_ x1] n (W0 dy) g (fun v n' S' g' => V miX12_tie (d + 1) 51 [(0, .ref 53), (1, I_ x1), (2, I_ x2)] (v.toList ++ []) n' S' g' 0 0 P)) : V miX12_tie (d + 1) 46 [(0, .ref 53), (1, I_ x1), (2, I_ x2)] [] n (W0 dy) g 0 0 P := by
  refine v_aload_n 25 0 rfl rfl rfl ?_
  refine v_iload_n 26 1 rfl rfl rfl ?_
  refine v_callV (st := []) [I_ x1] 27 rfl lv12_284_tie_11 (al 53 rfl hn) (wk53 dy) (by decide) rfl (Nat.le_refl _) (Nat.le_refl _) ?_
  exact h
set_option maxHeartbeats 8000000 in
set_option maxRecDepth 4000 in
theorem bX12_tie_51 {d n : Nat} {dy : Nat → Shp} {g : Hp} {P : Pst} {x1 : Int} {x2 : Int} {xs0 : Int} (hn : 100 ≤ n) (h : (i3 xs0) ∧ ((xs0 ≠ 0) → Runs miX12_levelP d [.ref 53, I_ x1] n (W0 dy) g (fun v n' S' g' => V miX12_tie (d + 1) 67 [(0, .ref 53), (1, I_ x1), (2, I_ x2)] (v.toList ++ []) n' S' g' 0 0 P)) ∧ ((xs0 = 0) → Runs miX12_refuse d [.ref 53, I_ 11] n (W0 dy) g (fun v n' S' g' => V miX12_tie (d + 1) 60 [(0, .ref 53), (1, I_ x1), (2, I_ x2)] (v.toList ++ []) n' S' g' 0 0 P))) : V miX12_tie (d + 1) 51 [(0, .ref 53), (1, I_ x1), (2, I_ x2)] [I_ xs0] n (W0 dy) g 0 0 P := by
  have c1 := h.1
  have h := h.2
  refine v_if_ne 28 rfl (tgt := 62) rfl c1 (fun q2 => ?_) (fun q2 => ?_)
  · have h := h.1 q2
    refine v_aload_n 34 0 rfl rfl rfl ?_
    refine v_iload_n 35 1 rfl rfl rfl ?_
    refine v_callV (st := []) [I_ x1] 36 rfl lv12_262_tie_11 (al 53 rfl hn) (wk53 dy) (by decide) rfl (Nat.le_refl _) (Nat.le_refl _) ?_
    exact h
  · have h := h.2 q2
    refine v_aload_n 29 0 rfl rfl rfl ?_
    refine v_bipush 30 rfl (by decide) ?_
    refine v_callV (st := []) [I_ 11] 31 rfl lv12_174_tie_11 (al 53 rfl hn) (wk53 dy) (by decide) rfl (Nat.le_refl _) (Nat.le_refl _) ?_
    exact h
set_option maxHeartbeats 8000000 in
set_option maxRecDepth 4000 in
theorem bX12_tie_60 {d n : Nat} {dy : Nat → Shp} {g : Hp} {P : Pst} {x1 : Int} {x2 : Int} {xs0 : Int} (hn : 100 ≤ n) (h : (i3 xs0) ∧ P (some (L_ xs0)) n (W0 dy) g) : V miX12_tie (d + 1) 60 [(0, .ref 53), (1, I_ x1), (2, I_ x2)] [I_ xs0] n (W0 dy) g 0 0 P := by
  have c1 := h.1
  have h := h.2
  refine v_i2l 32 rfl c1 ?_
  exact v_ret (v := some (L_ xs0)) 33 rfl (Nat.zero_le _) (Nat.zero_le _) trivial rfl h
set_option maxHeartbeats 8000000 in
set_option maxRecDepth 4000 in
theorem bX12_tie_67 {d n : Nat} {dy : Nat → Shp} {g : Hp} {P : Pst} {x1 : Int} {x2 : Int} {xs0 : Int} (hn : 100 ≤ n) (h : Runs miX12_levelQ d [.ref 53, I_ x1] n (W0 dy) g (fun v n' S' g' => V miX12_tie (d + 1) 72 [(0, .ref 53), (1, I_ x1), (2, I_ x2)] (v.toList ++ [L_ xs0]) n' S' g' 0 0 P)) : V miX12_tie (d + 1) 67 [(0, .ref 53), (1, I_ x1), (2, I_ x2)] [L_ xs0] n (W0 dy) g 0 0 P := by
  refine v_aload_n 37 0 rfl rfl rfl ?_
  refine v_iload_n 38 1 rfl rfl rfl ?_
  refine v_callV (st := [L_ xs0]) [I_ x1] 39 rfl lv12_265_tie_11 (al 53 rfl hn) (wk53 dy) (by decide) rfl (Nat.le_refl _) (Nat.le_refl _) ?_
  exact h
set_option maxHeartbeats 8000000 in
set_option maxRecDepth 4000 in
theorem bX12_tie_72 {d n : Nat} {dy : Nat → Shp} {g : Hp} {P : Pst} {x1 : Int} {x2 : Int} {xs0 : Int} {xs1 : Int} (hn : 100 ≤ n) (h : Runs miX12_common d [L_ xs0, L_ xs1] n (W0 dy) g (fun v n' S' g' => V miX12_tie (d + 1) 75 [(0, .ref 53), (1, I_ x1), (2, I_ x2)] (v.toList ++ []) n' S' g' 0 0 P)) : V miX12_tie (d + 1) 72 [(0, .ref 53), (1, I_ x1), (2, I_ x2)] [L_ xs1, L_ xs0] n (W0 dy) g 0 0 P := by
  refine v_callS (st := []) [L_ xs0, L_ xs1] 40 rfl ls12_227_tie rfl (Nat.lt_of_lt_of_le (by decide) hn) (Nat.le_refl _) (Nat.le_refl _) ?_
  exact h
set_option maxHeartbeats 8000000 in
set_option maxRecDepth 4000 in
theorem bX12_tie_75 {d n : Nat} {dy : Nat → Shp} {g : Hp} {P : Pst} {x1 : Int} {x2 : Int} {xs0 : Int} (hn : 100 ≤ n) (h : (i3 x2) ∧ ((x2 ≠ 0) → Runs miX12_levelQ d [.ref 53, I_ x1] n (W0 dy) g (fun v n' S' g' => V miX12_tie (d + 1) 93 [(0, .ref 53), (1, I_ x1), (2, I_ x2), (3, L_ xs0)] (v.toList ++ []) n' S' g' 0 0 P)) ∧ ((x2 = 0) → Runs miX12_levelP d [.ref 53, I_ x1] n (W0 dy) g (fun v n' S' g' => V miX12_tie (d + 1) 85 [(0, .ref 53), (1, I_ x1), (2, I_ x2), (3, L_ xs0)] (v.toList ++ []) n' S' g' 0 0 P))) : V miX12_tie (d + 1) 75 [(0, .ref 53), (1, I_ x1), (2, I_ x2)] [L_ xs0] n (W0 dy) g 0 0 P := by
  refine v_lstore_n 41 [1, 2, 3, 0] rfl rfl (by decide) rfl ?_
  refine v_iload_n 42 2 rfl rfl rfl ?_
  have c1 := h.1
  have h := h.2
  refine v_if_ne 43 rfl (tgt := 88) rfl c1 (fun q2 => ?_) (fun q2 => ?_)
  · have h := h.1 q2
    refine v_aload_n 48 0 rfl rfl rfl ?_
    refine v_iload_n 49 1 rfl rfl rfl ?_
    refine v_callV (st := []) [I_ x1] 50 rfl lv12_265_tie_11 (al 53 rfl hn) (wk53 dy) (by decide) rfl (Nat.le_refl _) (Nat.le_refl _) ?_
    exact h
  · have h := h.2 q2
    refine v_aload_n 44 0 rfl rfl rfl ?_
    refine v_iload_n 45 1 rfl rfl rfl ?_
    refine v_callV (st := []) [I_ x1] 46 rfl lv12_262_tie_11 (al 53 rfl hn) (wk53 dy) (by decide) rfl (Nat.le_refl _) (Nat.le_refl _) ?_
    exact h
set_option maxHeartbeats 8000000 in
set_option maxRecDepth 4000 in
theorem bX12_tie_85 {d n : Nat} {dy : Nat → Shp} {g : Hp} {P : Pst} {x1 : Int} {x2 : Int} {x3 : Int} {xs0 : Int} (hn : 100 ≤ n) (h : V miX12_tie (d + 1) 93 [(0, .ref 53), (1, I_ x1), (2, I_ x2), (3, L_ x3)] [L_ xs0] n (W0 dy) g 0 0 P) : V miX12_tie (d + 1) 85 [(0, .ref 53), (1, I_ x1), (2, I_ x2), (3, L_ x3)] [L_ xs0] n (W0 dy) g 0 0 P := by
  refine v_goto 47 rfl (tgt := 93) rfl ?_
  exact h
set_option maxHeartbeats 8000000 in
set_option maxRecDepth 4000 in
theorem bX12_tie_93 {d n : Nat} {dy : Nat → Shp} {g : Hp} {P : Pst} {x1 : Int} {x2 : Int} {x3 : Int} {xs0 : Int} (hn : 100 ≤ n) (h : (i6 xs0) ∧ (i6 x3) ∧ (x3 ≠ 0) ∧ P (some (L_ (xs0.tdiv x3))) n (W0 dy) g) : V miX12_tie (d + 1) 93 [(0, .ref 53), (1, I_ x1), (2, I_ x2), (3, L_ x3)] [L_ xs0] n (W0 dy) g 0 0 P := by
  refine v_lload_n 51 3 rfl rfl rfl ?_
  have c1 := h.1
  have h := h.2
  have c2 := h.1
  have h := h.2
  have c3 := h.1
  have h := h.2
  refine v_ldiv 52 rfl c1 c2 c3 ?_
  exact v_ret (v := some (L_ (xs0.tdiv x3))) 53 rfl (Nat.zero_le _) (Nat.zero_le _) trivial rfl h
theorem wX12_tie {d n : Nat} {dy : Nat → Shp} {g : Hp} {P : Pst} {x1 : Int} {x2 : Int} (hn : 100 ≤ n) (h : Runs miX12_rodded d [.ref 53, I_ x1] n (W0 dy) (up2 g 53 1 0) (fun v n' S' g' => V miX12_tie (d + 1) 11 [(0, .ref 53), (1, I_ x1), (2, I_ x2)] (v.toList ++ [.ref 53]) n' S' g' 0 0 P)) : Runs miX12_tie (d + 1) [.ref 53, I_ x1, I_ x2] n (W0 dy) g P := Runs.of rfl rfl deX12_tie (Nat.le_of_ble_eq_true rfl) (bX12_tie_0 hn h)
theorem lv12_274_all_11 : LkV miX12_all miX12_topped 274 1 11 := ⟨⟨⟨tbG_in (List.mem_append_right _ (List.mem_of_getElem? (i := 1501) (by decide +kernel))) rfl, tbG_in (List.mem_append_right _ (List.mem_of_getElem? (i := 9) (by decide +kernel))) rfl, tbG_in (List.mem_append_right _ (List.mem_of_getElem? (i := 1498) (by decide +kernel))) rfl⟩, ⟨by decide +kernel, by decide +kernel, by decide +kernel⟩, by decide⟩, tbG_in (List.mem_append_right _ (List.mem_of_getElem? (i := 1500) (by decide +kernel))) rfl, RX12, TX12, 58, rfl, tbG_in (List.mem_append_left _ (List.mem_of_getElem? (i := 70) (by decide +kernel))) rfl⟩
theorem lv12_268_all_11 : LkV miX12_all miX12_allThere 268 0 11 := ⟨⟨⟨tbG_in (List.mem_append_right _ (List.mem_of_getElem? (i := 1465) (by decide +kernel))) rfl, tbG_in (List.mem_append_right _ (List.mem_of_getElem? (i := 9) (by decide +kernel))) rfl, tbG_in (List.mem_append_right _ (List.mem_of_getElem? (i := 1462) (by decide +kernel))) rfl⟩, ⟨by decide +kernel, by decide +kernel, by decide +kernel⟩, by decide⟩, tbG_in (List.mem_append_right _ (List.mem_of_getElem? (i := 1464) (by decide +kernel))) rfl, RX12, TX12, 58, rfl, tbG_in (List.mem_append_left _ (List.mem_of_getElem? (i := 63) (by decide +kernel))) rfl⟩
theorem lv12_277_all_11 : LkV miX12_all miX12_marks 277 1 11 := ⟨⟨⟨tbG_in (List.mem_append_right _ (List.mem_of_getElem? (i := 1505) (by decide +kernel))) rfl, tbG_in (List.mem_append_right _ (List.mem_of_getElem? (i := 9) (by decide +kernel))) rfl, tbG_in (List.mem_append_right _ (List.mem_of_getElem? (i := 1502) (by decide +kernel))) rfl⟩, ⟨by decide +kernel, by decide +kernel, by decide +kernel⟩, by decide⟩, tbG_in (List.mem_append_right _ (List.mem_of_getElem? (i := 1504) (by decide +kernel))) rfl, RX12, TX12, 58, rfl, tbG_in (List.mem_append_left _ (List.mem_of_getElem? (i := 71) (by decide +kernel))) rfl⟩
theorem lv12_237_all_11 : LkV miX12_all miX12_isRod 237 1 11 := ⟨⟨⟨tbG_in (List.mem_append_right _ (List.mem_of_getElem? (i := 1428) (by decide +kernel))) rfl, tbG_in (List.mem_append_right _ (List.mem_of_getElem? (i := 9) (by decide +kernel))) rfl, tbG_in (List.mem_append_right _ (List.mem_of_getElem? (i := 1425) (by decide +kernel))) rfl⟩, ⟨by decide +kernel, by decide +kernel, by decide +kernel⟩, by decide⟩, tbG_in (List.mem_append_right _ (List.mem_of_getElem? (i := 1427) (by decide +kernel))) rfl, RX12, TX12, 58, rfl, tbG_in (List.mem_append_left _ (List.mem_of_getElem? (i := 60) (by decide +kernel))) rfl⟩
theorem lv12_284_all_11 : LkV miX12_all miX12_canBeLevel 284 1 11 := ⟨⟨⟨tbG_in (List.mem_append_right _ (List.mem_of_getElem? (i := 1517) (by decide +kernel))) rfl, tbG_in (List.mem_append_right _ (List.mem_of_getElem? (i := 9) (by decide +kernel))) rfl, tbG_in (List.mem_append_right _ (List.mem_of_getElem? (i := 1514) (by decide +kernel))) rfl⟩, ⟨by decide +kernel, by decide +kernel, by decide +kernel⟩, by decide⟩, tbG_in (List.mem_append_right _ (List.mem_of_getElem? (i := 1516) (by decide +kernel))) rfl, RX12, TX12, 58, rfl, tbG_in (List.mem_append_left _ (List.mem_of_getElem? (i := 73) (by decide +kernel))) rfl⟩
theorem lv12_174_all_11 : LkV miX12_all miX12_refuse 174 1 11 := ⟨⟨⟨tbG_in (List.mem_append_right _ (List.mem_of_getElem? (i := 1351) (by decide +kernel))) rfl, tbG_in (List.mem_append_right _ (List.mem_of_getElem? (i := 9) (by decide +kernel))) rfl, tbG_in (List.mem_append_right _ (List.mem_of_getElem? (i := 1348) (by decide +kernel))) rfl⟩, ⟨by decide +kernel, by decide +kernel, by decide +kernel⟩, by decide⟩, tbG_in (List.mem_append_right _ (List.mem_of_getElem? (i := 1350) (by decide +kernel))) rfl, RX12, TX12, 58, rfl, tbG_in (List.mem_append_left _ (List.mem_of_getElem? (i := 50) (by decide +kernel))) rfl⟩
theorem lv12_262_all_11 : LkV miX12_all miX12_levelP 262 1 11 := ⟨⟨⟨tbG_in (List.mem_append_right _ (List.mem_of_getElem? (i := 1485) (by decide +kernel))) rfl, tbG_in (List.mem_append_right _ (List.mem_of_getElem? (i := 9) (by decide +kernel))) rfl, tbG_in (List.mem_append_right _ (List.mem_of_getElem? (i := 1482) (by decide +kernel))) rfl⟩, ⟨by decide +kernel, by decide +kernel, by decide +kernel⟩, by decide⟩, tbG_in (List.mem_append_right _ (List.mem_of_getElem? (i := 1484) (by decide +kernel))) rfl, RX12, TX12, 58, rfl, tbG_in (List.mem_append_left _ (List.mem_of_getElem? (i := 67) (by decide +kernel))) rfl⟩
theorem lv12_265_all_11 : LkV miX12_all miX12_levelQ 265 1 11 := ⟨⟨⟨tbG_in (List.mem_append_right _ (List.mem_of_getElem? (i := 1493) (by decide +kernel))) rfl, tbG_in (List.mem_append_right _ (List.mem_of_getElem? (i := 9) (by decide +kernel))) rfl, tbG_in (List.mem_append_right _ (List.mem_of_getElem? (i := 1490) (by decide +kernel))) rfl⟩, ⟨by decide +kernel, by decide +kernel, by decide +kernel⟩, by decide⟩, tbG_in (List.mem_append_right _ (List.mem_of_getElem? (i := 1492) (by decide +kernel))) rfl, RX12, TX12, 58, rfl, tbG_in (List.mem_append_left _ (List.mem_of_getElem? (i := 69) (by decide +kernel))) rfl⟩
theorem ls12_227_all : LkS miX12_all miX12_common 227 2 := ⟨⟨⟨tbG_in (List.mem_append_right _ (List.mem_of_getElem? (i := 1404) (by decide +kernel))) rfl, tbG_in (List.mem_append_right _ (List.mem_of_getElem? (i := 9) (by decide +kernel))) rfl, tbG_in (List.mem_append_right _ (List.mem_of_getElem? (i := 1402) (by decide +kernel))) rfl⟩, ⟨by decide +kernel, by decide +kernel, by decide +kernel⟩, by decide⟩, tbG_in (List.mem_append_right _ (List.mem_of_getElem? (i := 1403) (by decide +kernel))) rfl⟩
set_option maxHeartbeats 8000000 in
set_option maxRecDepth 4000 in
theorem bX12_all_0 {d n : Nat} {dy : Nat → Shp} {g : Hp} {P : Pst} {x1 : Int} (hn : 100 ≤ n) (h : Runs miX12_topped d [.ref 53, I_ x1] n (W0 dy) (up2 g 53 1 0) (fun v n' S' g' => V miX12_all (d + 1) 11 [(0, .ref 53), (1, I_ x1)] (v.toList ++ [.ref 53]) n' S' g' 0 0 P)) : V miX12_all (d + 1) 0 [(0, .ref 53), (1, I_ x1)] [] n (W0 dy) g 0 0 P := by
  refine v_aload_n 0 0 rfl rfl rfl ?_
  refine v_iconst 1 rfl ?_
  refine v_putI 2 rfl fl12_148_11 (al 53 rfl hn) (wk53 dy) (by decide) rfl (wc53_1 dy) (by decide) ?_
  refine v_aload_n 3 0 rfl rfl rfl ?_
  refine v_aload_n 4 0 rfl rfl rfl ?_
  refine v_iload_n 5 1 rfl rfl rfl ?_
  refine v_callV (st := [.ref 53]) [I_ x1] 6 rfl lv12_274_all_11 (al 53 rfl hn) (wk53 dy) (by decide) rfl (Nat.le_refl _) (Nat.le_refl _) ?_
  exact h
set_option maxHeartbeats 8000000 in
set_option maxRecDepth 4000 in
theorem bX12_all_11 {d n : Nat} {dy : Nat → Shp} {g : Hp} {P : Pst} {x1 : Int} {xs1 : Int} (hn : 100 ≤ n) (h : (i3 xs1) ∧ ((xs1 ≤ 0) → Runs miX12_allThere d [.ref 53] n (W0 dy) (up2 g 53 0 xs1) (fun v n' S' g' => V miX12_all (d + 1) 27 [(0, .ref 53), (1, I_ x1)] (v.toList ++ []) n' S' g' 0 0 P)) ∧ ((0 < xs1) → P (some (I_ ((-1)))) n (W0 dy) (up2 g 53 0 xs1))) : V miX12_all (d + 1) 11 [(0, .ref 53), (1, I_ x1)] [I_ xs1, .ref 53] n (W0 dy) g 0 0 P := by
  have c1 := h.1
  have h := h.2
  refine v_putI 7 rfl fl12_152_11 (al 53 rfl hn) (wk53 dy) (by decide) rfl (wc53_0 dy) c1 ?_
  refine v_aload_n 8 0 rfl rfl rfl ?_
  refine v_gI 9 rfl fl12_152_11.r (al 53 rfl hn) (wk53 dy) (by decide) rfl (wc53_0 dy) (x := xs1) rfl ?_
  refine v_rng fun w2 => ?_
  have p3 : i3 (xs1) := rI w2 (q := 0) (al 53 rfl hn) (wk53 dy) rfl rfl
  refine v_if_le 10 rfl (tgt := 23) rfl p3 (fun q4 => ?_) (fun q4 => ?_)
  · have h := h.1 q4
    refine v_aload_n 13 0 rfl rfl rfl ?_
    refine v_callV (st := []) [] 14 rfl lv12_268_all_11 (al 53 rfl hn) (wk53 dy) (by decide) rfl (Nat.le_refl _) (Nat.le_refl _) ?_
    exact h
  · have h := h.2 q4
    refine v_iconst 11 rfl ?_
    exact v_ret (v := some (I_ ((-1)))) 12 rfl (Nat.zero_le _) (Nat.zero_le _) trivial rfl h
set_option maxHeartbeats 8000000 in
set_option maxRecDepth 4000 in
theorem bX12_all_27 {d n : Nat} {dy : Nat → Shp} {g : Hp} {P : Pst} {x1 : Int} (hn : 100 ≤ n) (h : Runs miX12_marks d [.ref 53, I_ x1] n (W0 dy) g (fun v n' S' g' => V miX12_all (d + 1) 32 [(0, .ref 53), (1, I_ x1)] (v.toList ++ []) n' S' g' 0 0 P)) : V miX12_all (d + 1) 27 [(0, .ref 53), (1, I_ x1)] [] n (W0 dy) g 0 0 P := by
  refine v_aload_n 15 0 rfl rfl rfl ?_
  refine v_iload_n 16 1 rfl rfl rfl ?_
  refine v_callV (st := []) [I_ x1] 17 rfl lv12_277_all_11 (al 53 rfl hn) (wk53 dy) (by decide) rfl (Nat.le_refl _) (Nat.le_refl _) ?_
  exact h
set_option maxHeartbeats 8000000 in
set_option maxRecDepth 4000 in
theorem bX12_all_32 {d n : Nat} {dy : Nat → Shp} {g : Hp} {P : Pst} {x1 : Int} (hn : 100 ≤ n) (h : V miX12_all (d + 1) 36 [(0, .ref 53), (1, I_ x1), (2, I_ 0), (3, I_ 0)] [] n (W0 dy) g 0 0 P) : V miX12_all (d + 1) 32 [(0, .ref 53), (1, I_ x1)] [] n (W0 dy) g 0 0 P := by
  refine v_iconst 18 rfl ?_
  refine v_istore_n 19 [1, 2, 0] rfl rfl (by decide) rfl ?_
  refine v_iconst 20 rfl ?_
  refine v_istore_n 21 [1, 2, 3, 0] rfl rfl (by decide) rfl ?_
  exact h
set_option maxHeartbeats 8000000 in
set_option maxRecDepth 4000 in
theorem bX12_all_36 {d n : Nat} {dy : Nat → Shp} {g : Hp} {P : Pst} {x1 : Int} {x2 : Int} {x3 : Int} (hn : 100 ≤ n) (h : (i3 x3) ∧ (((g 53 5) ≤ x3) → V miX12_all (d + 1) 90 [(0, .ref 53), (1, I_ x1), (2, I_ x2), (3, I_ 0)] [] n (W0 dy) g 0 0 P) ∧ ((x3 < (g 53 5)) → (0 ≤ x3 ∧ x3 < 60) ∧ (((g 75 x3.toNat) = 0) → V miX12_all (d + 1) 36 [(0, .ref 53), (1, I_ x1), (2, I_ x2), (3, I_ (x3 + 1))] [] n (W0 dy) g 0 0 P) ∧ (((g 75 x3.toNat) ≠ 0) → Runs miX12_isRod d [.ref 53, I_ x3] n (W0 dy) g (fun v n' S' g' => V miX12_all (d + 1) 58 [(0, .ref 53), (1, I_ x1), (2, I_ x2), (3, I_ x3)] (v.toList ++ []) n' S' g' 0 0 P)))) : V miX12_all (d + 1) 36 [(0, .ref 53), (1, I_ x1), (2, I_ x2), (3, I_ x3)] [] n (W0 dy) g 0 0 P := by
  refine v_iload_n 22 3 rfl rfl rfl ?_
  refine v_aload_n 23 0 rfl rfl rfl ?_
  refine v_gI 24 rfl fl12_169_11.r (al 53 rfl hn) (wk53 dy) (by decide) rfl (wc53_5 dy) (x := g 53 5) rfl ?_
  refine v_rng fun w1 => ?_
  have p2 : i3 (g 53 5) := rI w1 (q := 5) (al 53 rfl hn) (wk53 dy) rfl rfl
  have c3 := h.1
  have h := h.2
  refine v_icmp_ge 25 rfl (tgt := 88) rfl c3 p2 (fun q4 => ?_) (fun q4 => ?_)
  · have h := h.1 q4
    refine v_iconst 47 rfl ?_
    refine v_istore_n 48 [1, 2, 3, 0] rfl rfl (by decide) rfl ?_
    exact h
  · have h := h.2 q4
    refine v_aload_n 26 0 rfl rfl rfl ?_
    refine v_gK 27 rfl fl12_74_11.r (al 53 rfl hn) (wk53 dy) (by decide) rfl (r := 75) (wc53_24 dy) ?_
    refine v_iload_n 28 3 rfl rfl rfl ?_
    have c5 := h.1
    have h := h.2
    refine v_za (N := 60) 29 rfl (al 75 rfl hn) (wk75 dy) (wn75 dy) (by decide) c5 (y := g 75 x3.toNat) rfl ?_
    refine v_rng fun w6 => ?_
    have p7 : i3 (g 75 x3.toNat) := rI w6 (q := x3.toNat) (al 75 rfl hn) (wk75 dy) rfl rfl
    refine v_if_eq 30 rfl (tgt := 82) rfl p7 (fun q8 => ?_) (fun q8 => ?_)
    · have h := h.1 q8
      refine v_iinc 45 3 [1, 2, 3, 0] rfl rfl (by decide) rfl ?_
      refine v_goto 46 rfl (tgt := 36) rfl ?_
      exact h
    · have h := h.2 q8
      refine v_aload_n 31 0 rfl rfl rfl ?_
      refine v_iload_n 32 3 rfl rfl rfl ?_
      refine v_callV (st := []) [I_ x3] 33 rfl lv12_237_all_11 (al 53 rfl hn) (wk53 dy) (by decide) rfl (Nat.le_refl _) (Nat.le_refl _) ?_
      exact h
set_option maxHeartbeats 8000000 in
set_option maxRecDepth 4000 in
theorem bX12_all_58 {d n : Nat} {dy : Nat → Shp} {g : Hp} {P : Pst} {x1 : Int} {x2 : Int} {x3 : Int} {xs0 : Int} (hn : 100 ≤ n) (h : (i3 xs0) ∧ ((xs0 ≠ 0) → Runs miX12_canBeLevel d [.ref 53, I_ x3] n (W0 dy) g (fun v n' S' g' => V miX12_all (d + 1) 69 [(0, .ref 53), (1, I_ x1), (2, I_ x2), (3, I_ x3)] (v.toList ++ []) n' S' g' 0 0 P)) ∧ ((xs0 = 0) → V miX12_all (d + 1) 36 [(0, .ref 53), (1, I_ x1), (2, I_ x2), (3, I_ (x3 + 1))] [] n (W0 dy) g 0 0 P)) : V miX12_all (d + 1) 58 [(0, .ref 53), (1, I_ x1), (2, I_ x2), (3, I_ x3)] [I_ xs0] n (W0 dy) g 0 0 P := by
  have c1 := h.1
  have h := h.2
  refine v_if_ne 34 rfl (tgt := 64) rfl c1 (fun q2 => ?_) (fun q2 => ?_)
  · have h := h.1 q2
    refine v_aload_n 36 0 rfl rfl rfl ?_
    refine v_iload_n 37 3 rfl rfl rfl ?_
    refine v_callV (st := []) [I_ x3] 38 rfl lv12_284_all_11 (al 53 rfl hn) (wk53 dy) (by decide) rfl (Nat.le_refl _) (Nat.le_refl _) ?_
    exact h
  · have h := h.2 q2
    refine v_goto 35 rfl (tgt := 82) rfl ?_
    refine v_iinc 45 3 [1, 2, 3, 0] rfl rfl (by decide) rfl ?_
    refine v_goto 46 rfl (tgt := 36) rfl ?_
    exact h
set_option maxHeartbeats 8000000 in
set_option maxRecDepth 4000 in
theorem bX12_all_69 {d n : Nat} {dy : Nat → Shp} {g : Hp} {P : Pst} {x1 : Int} {x2 : Int} {x3 : Int} {xs0 : Int} (hn : 100 ≤ n) (h : (i3 xs0) ∧ ((xs0 ≠ 0) → V miX12_all (d + 1) 36 [(0, .ref 53), (1, I_ x1), (2, I_ (x2 + 1)), (3, I_ (x3 + 1))] [] n (W0 dy) g 0 0 P) ∧ ((xs0 = 0) → Runs miX12_refuse d [.ref 53, I_ 11] n (W0 dy) g (fun v n' S' g' => V miX12_all (d + 1) 78 [(0, .ref 53), (1, I_ x1), (2, I_ x2), (3, I_ x3)] (v.toList ++ []) n' S' g' 0 0 P))) : V miX12_all (d + 1) 69 [(0, .ref 53), (1, I_ x1), (2, I_ x2), (3, I_ x3)] [I_ xs0] n (W0 dy) g 0 0 P := by
  have c1 := h.1
  have h := h.2
  refine v_if_ne 39 rfl (tgt := 79) rfl c1 (fun q2 => ?_) (fun q2 => ?_)
  · have h := h.1 q2
    refine v_iinc 44 2 [1, 2, 0, 3] rfl rfl (by decide) rfl ?_
    refine v_iinc 45 3 [1, 2, 3, 0] rfl rfl (by decide) rfl ?_
    refine v_goto 46 rfl (tgt := 36) rfl ?_
    exact h
  · have h := h.2 q2
    refine v_aload_n 40 0 rfl rfl rfl ?_
    refine v_bipush 41 rfl (by decide) ?_
    refine v_callV (st := []) [I_ 11] 42 rfl lv12_174_all_11 (al 53 rfl hn) (wk53 dy) (by decide) rfl (Nat.le_refl _) (Nat.le_refl _) ?_
    exact h
set_option maxHeartbeats 8000000 in
set_option maxRecDepth 4000 in
theorem bX12_all_78 {d n : Nat} {dy : Nat → Shp} {g : Hp} {P : Pst} {x1 : Int} {x2 : Int} {x3 : Int} {xs0 : Int} (hn : 100 ≤ n) (h : P (some (I_ xs0)) n (W0 dy) g) : V miX12_all (d + 1) 78 [(0, .ref 53), (1, I_ x1), (2, I_ x2), (3, I_ x3)] [I_ xs0] n (W0 dy) g 0 0 P := by
  exact v_ret (v := some (I_ xs0)) 43 rfl (Nat.zero_le _) (Nat.zero_le _) trivial rfl h
set_option maxHeartbeats 8000000 in
set_option maxRecDepth 4000 in
theorem bX12_all_90 {d n : Nat} {dy : Nat → Shp} {g : Hp} {P : Pst} {x1 : Int} {x2 : Int} {x3 : Int} (hn : 100 ≤ n) (h : (i3 x3) ∧ (((g 53 5) ≤ x3) → P (some (I_ x2)) n (W0 dy) g) ∧ ((x3 < (g 53 5)) → (0 ≤ x3 ∧ x3 < 60) ∧ (((g 75 x3.toNat) = 0) → V miX12_all (d + 1) 90 [(0, .ref 53), (1, I_ x1), (2, I_ x2), (3, I_ (x3 + 1))] [] n (W0 dy) g 0 0 P) ∧ (((g 75 x3.toNat) ≠ 0) → Runs miX12_isRod d [.ref 53, I_ x3] n (W0 dy) g (fun v n' S' g' => V miX12_all (d + 1) 112 [(0, .ref 53), (1, I_ x1), (2, I_ x2), (3, I_ x3)] (v.toList ++ []) n' S' g' 0 0 P)))) : V miX12_all (d + 1) 90 [(0, .ref 53), (1, I_ x1), (2, I_ x2), (3, I_ x3)] [] n (W0 dy) g 0 0 P := by
  refine v_iload_n 49 3 rfl rfl rfl ?_
  refine v_aload_n 50 0 rfl rfl rfl ?_
  refine v_gI 51 rfl fl12_169_11.r (al 53 rfl hn) (wk53 dy) (by decide) rfl (wc53_5 dy) (x := g 53 5) rfl ?_
  refine v_rng fun w1 => ?_
  have p2 : i3 (g 53 5) := rI w1 (q := 5) (al 53 rfl hn) (wk53 dy) rfl rfl
  have c3 := h.1
  have h := h.2
  refine v_icmp_ge 52 rfl (tgt := 169) rfl c3 p2 (fun q4 => ?_) (fun q4 => ?_)
  · have h := h.1 q4
    refine v_iload_n 91 2 rfl rfl rfl ?_
    exact v_ret (v := some (I_ x2)) 92 rfl (Nat.zero_le _) (Nat.zero_le _) trivial rfl h
  · have h := h.2 q4
    refine v_aload_n 53 0 rfl rfl rfl ?_
    refine v_gK 54 rfl fl12_74_11.r (al 53 rfl hn) (wk53 dy) (by decide) rfl (r := 75) (wc53_24 dy) ?_
    refine v_iload_n 55 3 rfl rfl rfl ?_
    have c5 := h.1
    have h := h.2
    refine v_za (N := 60) 56 rfl (al 75 rfl hn) (wk75 dy) (wn75 dy) (by decide) c5 (y := g 75 x3.toNat) rfl ?_
    refine v_rng fun w6 => ?_
    have p7 : i3 (g 75 x3.toNat) := rI w6 (q := x3.toNat) (al 75 rfl hn) (wk75 dy) rfl rfl
    refine v_if_eq 57 rfl (tgt := 163) rfl p7 (fun q8 => ?_) (fun q8 => ?_)
    · have h := h.1 q8
      refine v_iinc 89 3 [1, 2, 3, 0] rfl rfl (by decide) rfl ?_
      refine v_goto 90 rfl (tgt := 90) rfl ?_
      exact h
    · have h := h.2 q8
      refine v_aload_n 58 0 rfl rfl rfl ?_
      refine v_iload_n 59 3 rfl rfl rfl ?_
      refine v_callV (st := []) [I_ x3] 60 rfl lv12_237_all_11 (al 53 rfl hn) (wk53 dy) (by decide) rfl (Nat.le_refl _) (Nat.le_refl _) ?_
      exact h
set_option maxHeartbeats 8000000 in
set_option maxRecDepth 4000 in
theorem bX12_all_112 {d n : Nat} {dy : Nat → Shp} {g : Hp} {P : Pst} {x1 : Int} {x2 : Int} {x3 : Int} {xs0 : Int} (hn : 100 ≤ n) (h : (i3 xs0) ∧ ((xs0 ≠ 0) → Runs miX12_levelP d [.ref 53, I_ x3] n (W0 dy) g (fun v n' S' g' => V miX12_all (d + 1) 123 [(0, .ref 53), (1, I_ x1), (2, I_ x2), (3, I_ x3)] (v.toList ++ []) n' S' g' 0 0 P)) ∧ ((xs0 = 0) → V miX12_all (d + 1) 90 [(0, .ref 53), (1, I_ x1), (2, I_ x2), (3, I_ (x3 + 1))] [] n (W0 dy) g 0 0 P)) : V miX12_all (d + 1) 112 [(0, .ref 53), (1, I_ x1), (2, I_ x2), (3, I_ x3)] [I_ xs0] n (W0 dy) g 0 0 P := by
  have c1 := h.1
  have h := h.2
  refine v_if_ne 61 rfl (tgt := 118) rfl c1 (fun q2 => ?_) (fun q2 => ?_)
  · have h := h.1 q2
    refine v_aload_n 63 0 rfl rfl rfl ?_
    refine v_iload_n 64 3 rfl rfl rfl ?_
    refine v_callV (st := []) [I_ x3] 65 rfl lv12_262_all_11 (al 53 rfl hn) (wk53 dy) (by decide) rfl (Nat.le_refl _) (Nat.le_refl _) ?_
    exact h
  · have h := h.2 q2
    refine v_goto 62 rfl (tgt := 163) rfl ?_
    refine v_iinc 89 3 [1, 2, 3, 0] rfl rfl (by decide) rfl ?_
    refine v_goto 90 rfl (tgt := 90) rfl ?_
    exact h
set_option maxHeartbeats 8000000 in
set_option maxRecDepth 4000 in
theorem bX12_all_123 {d n : Nat} {dy : Nat → Shp} {g : Hp} {P : Pst} {x1 : Int} {x2 : Int} {x3 : Int} {xs0 : Int} (hn : 100 ≤ n) (h : Runs miX12_levelQ d [.ref 53, I_ x3] n (W0 dy) g (fun v n' S' g' => V miX12_all (d + 1) 130 [(0, .ref 53), (1, I_ x1), (2, I_ x2), (3, I_ x3), (4, L_ xs0)] (v.toList ++ []) n' S' g' 0 0 P)) : V miX12_all (d + 1) 123 [(0, .ref 53), (1, I_ x1), (2, I_ x2), (3, I_ x3)] [L_ xs0] n (W0 dy) g 0 0 P := by
  refine v_lstore 66 [1, 2, 3, 4, 0] rfl (by decide) rfl ?_
  refine v_aload_n 67 0 rfl rfl rfl ?_
  refine v_iload_n 68 3 rfl rfl rfl ?_
  refine v_callV (st := []) [I_ x3] 69 rfl lv12_265_all_11 (al 53 rfl hn) (wk53 dy) (by decide) rfl (Nat.le_refl _) (Nat.le_refl _) ?_
  exact h
set_option maxHeartbeats 8000000 in
set_option maxRecDepth 4000 in
theorem bX12_all_130 {d n : Nat} {dy : Nat → Shp} {g : Hp} {P : Pst} {x1 : Int} {x2 : Int} {x3 : Int} {x4 : Int} {xs0 : Int} (hn : 100 ≤ n) (h : Runs miX12_common d [L_ x4, L_ xs0] n (W0 dy) g (fun v n' S' g' => V miX12_all (d + 1) 139 [(0, .ref 53), (1, I_ x1), (2, I_ x2), (3, I_ x3), (4, L_ x4), (6, L_ xs0)] (v.toList ++ []) n' S' g' 0 0 P)) : V miX12_all (d + 1) 130 [(0, .ref 53), (1, I_ x1), (2, I_ x2), (3, I_ x3), (4, L_ x4)] [L_ xs0] n (W0 dy) g 0 0 P := by
  refine v_lstore 70 [1, 2, 3, 4, 5, 0] rfl (by decide) rfl ?_
  refine v_lload 71 4 rfl rfl ?_
  refine v_lload 72 5 rfl rfl ?_
  refine v_callS (st := []) [L_ x4, L_ xs0] 73 rfl ls12_227_all rfl (Nat.lt_of_lt_of_le (by decide) hn) (Nat.le_refl _) (Nat.le_refl _) ?_
  exact h
set_option maxHeartbeats 8000000 in
set_option maxRecDepth 4000 in
theorem bX12_all_139 {d n : Nat} {dy : Nat → Shp} {g : Hp} {P : Pst} {x1 : Int} {x2 : Int} {x3 : Int} {x4 : Int} {x6 : Int} {xs0 : Int} (hn : 100 ≤ n) (h : (i6 x4) ∧ (i6 xs0) ∧ (xs0 ≠ 0) ∧ (0 ≤ x3 ∧ x3 < 60) ∧ (i6 (x4.tdiv xs0)) ∧ (i6 x6) ∧ (xs0 ≠ 0) ∧ (i6 (x6.tdiv xs0)) ∧ V miX12_all (d + 1) 90 [(0, .ref 53), (1, I_ x1), (2, I_ x2), (3, I_ (x3 + 1))] [] n (W0 dy) (up2 (up2 g 64 x3.toNat (x4.tdiv xs0)) 65 x3.toNat (x6.tdiv xs0)) 0 0 P) : V miX12_all (d + 1) 139 [(0, .ref 53), (1, I_ x1), (2, I_ x2), (3, I_ x3), (4, L_ x4), (6, L_ x6)] [L_ xs0] n (W0 dy) g 0 0 P := by
  refine v_lstore 74 [1, 2, 3, 4, 5, 6, 0] rfl (by decide) rfl ?_
  refine v_aload_n 75 0 rfl rfl rfl ?_
  refine v_gK 76 rfl fl12_41_11.r (al 53 rfl hn) (wk53 dy) (by decide) rfl (r := 64) (wc53_13 dy) ?_
  refine v_iload_n 77 3 rfl rfl rfl ?_
  refine v_lload 78 4 rfl rfl ?_
  refine v_lload 79 6 rfl rfl ?_
  have c1 := h.1
  have h := h.2
  have c2 := h.1
  have h := h.2
  have c3 := h.1
  have h := h.2
  refine v_ldiv 80 rfl c1 c2 c3 ?_
  have c4 := h.1
  have h := h.2
  have c5 := h.1
  have h := h.2
  refine v_last (N := 60) 81 rfl (al 64 rfl hn) (wk64 dy) (wn64 dy) (by decide) c4 c5 ?_
  refine v_aload_n 82 0 rfl rfl rfl ?_
  refine v_gK 83 rfl fl12_44_11.r (al 53 rfl hn) (wk53 dy) (by decide) rfl (r := 65) (wc53_14 dy) ?_
  refine v_iload_n 84 3 rfl rfl rfl ?_
  refine v_lload 85 5 rfl rfl ?_
  refine v_lload 86 6 rfl rfl ?_
  have c6 := h.1
  have h := h.2
  have c7 := h.1
  have h := h.2
  refine v_ldiv 87 rfl c6 c2 c7 ?_
  have c8 := h.1
  have h := h.2
  refine v_last (N := 60) 88 rfl (al 65 rfl hn) (wk65 dy) (wn65 dy) (by decide) c4 c8 ?_
  refine v_iinc 89 3 [1, 2, 3, 0, 4, 5, 6] rfl rfl (by decide) rfl ?_
  refine v_goto 90 rfl (tgt := 90) rfl ?_
  refine v_loc [0, 1, 2, 3] rfl ?_
  exact h
theorem wX12_all {d n : Nat} {dy : Nat → Shp} {g : Hp} {P : Pst} {x1 : Int} (hn : 100 ≤ n) (h : Runs miX12_topped d [.ref 53, I_ x1] n (W0 dy) (up2 g 53 1 0) (fun v n' S' g' => V miX12_all (d + 1) 11 [(0, .ref 53), (1, I_ x1)] (v.toList ++ [.ref 53]) n' S' g' 0 0 P)) : Runs miX12_all (d + 1) [.ref 53, I_ x1] n (W0 dy) g P := Runs.of rfl rfl deX12_all (Nat.le_of_ble_eq_true rfl) (bX12_all_0 hn h)
