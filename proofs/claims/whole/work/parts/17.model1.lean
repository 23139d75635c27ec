theorem fl12_53_11 : FL RX12 53 11 17 true (.array .int) := ⟨RX12, TX12, 58, "MobileMakerModel", rfl, rfl, by decide, kf11, tbG_in (List.mem_append_right _ (List.mem_of_getElem? (i := 1144) (by decide +kernel))) rfl, Or.inl rfl, rfl, by decide +kernel, ⟨tyX12, tyX12_ok⟩, nmX12, fun _ => rfl⟩
theorem fl12_56_11 : FL RX12 56 11 18 true (.array .int) := ⟨RX12, TX12, 58, "MobileMakerModel", rfl, rfl, by decide, kf11, tbG_in (List.mem_append_right _ (List.mem_of_getElem? (i := 1145) (by decide +kernel))) rfl, Or.inl rfl, rfl, by decide +kernel, ⟨tyX12, tyX12_ok⟩, nmX12, fun _ => rfl⟩
theorem fl12_59_11 : FL RX12 59 11 19 true (.array .int) := ⟨RX12, TX12, 58, "MobileMakerModel", rfl, rfl, by decide, kf11, tbG_in (List.mem_append_right _ (List.mem_of_getElem? (i := 1146) (by decide +kernel))) rfl, Or.inl rfl, rfl, by decide +kernel, ⟨tyX12, tyX12_ok⟩, nmX12, fun _ => rfl⟩
theorem lm12_218_common : LkM miX12_common 218 Lib.MathLoose.abs_long.x Lib.MathLoose.abs_long.code 2 .long := ⟨tbG_in (List.mem_append_right _ (List.mem_of_getElem? (i := 1392) (by decide +kernel))) rfl, tbG_in (List.mem_append_right _ (List.mem_of_getElem? (i := 568) (by decide +kernel))) rfl, tbG_in (List.mem_append_right _ (List.mem_of_getElem? (i := 15) (by decide +kernel))) rfl, tbG_in (List.mem_append_right _ (List.mem_of_getElem? (i := 569) (by decide +kernel))) rfl⟩
set_option maxHeartbeats 8000000 in
set_option maxRecDepth 4000 in
theorem bX12_common_0 {d n : Nat} {dy : Nat → Shp} {g : Hp} {P : Pst} {x0 : Int} {x2 : Int} (hn : 100 ≤ n) (h : (i6 x0) ∧ (i6 x2) ∧ V miX12_common (d + 1) 12 [(0, L_ x0), (2, L_ x2), (4, L_ (ab x0)), (6, L_ (ab x2))] [] n (W0 dy) g 0 0 P) : V miX12_common (d + 1) 0 [(0, L_ x0), (2, L_ x2)] [] n (W0 dy) g 0 0 P := by
  refine v_lload_n 0 0 rfl rfl rfl ?_
  have c1 := h.1
  have h := h.2
  refine v_mabsl (st := []) 1 rfl lm12_218_common rfl (Nat.zero_le _) (Nat.zero_le _) c1 ?_
  refine v_lstore 2 [1, 2, 0] rfl (by decide) rfl ?_
  refine v_lload_n 3 1 rfl rfl rfl ?_
  have c2 := h.1
  have h := h.2
  refine v_mabsl (st := []) 4 rfl lm12_218_common rfl (Nat.zero_le _) (Nat.zero_le _) c2 ?_
  refine v_lstore 5 [1, 2, 3, 0] rfl (by decide) rfl ?_
  exact h
set_option maxHeartbeats 8000000 in
set_option maxRecDepth 4000 in
theorem bX12_common_12 {d n : Nat} {dy : Nat → Shp} {g : Hp} {P : Pst} {x0 : Int} {x2 : Int} {x4 : Int} {x6 : Int} (hn : 100 ≤ n) (h : (i6 x6) ∧ ((x6 = 0) → P (some (L_ x4)) n (W0 dy) g) ∧ ((x6 ≠ 0) → (i6 x4) ∧ (x6 ≠ 0) ∧ V miX12_common (d + 1) 12 [(0, L_ x0), (2, L_ x2), (4, L_ x6), (6, L_ (x4.tmod x6))] [] n (W0 dy) g 0 0 P)) : V miX12_common (d + 1) 12 [(0, L_ x0), (2, L_ x2), (4, L_ x4), (6, L_ x6)] [] n (W0 dy) g 0 0 P := by
  refine v_lload 6 3 rfl rfl ?_
  refine v_lconst (v := 0) 7 rfl (by decide) ?_
  have c1 := h.1
  have h := h.2
  refine v_lif_eq 8 rfl rfl (tgt := 37) rfl c1 (by decide) (fun q2 => ?_) (fun q2 => ?_)
  · have h := h.1 q2
    refine v_lload 19 2 rfl rfl ?_
    exact v_ret (v := some (L_ x4)) 20 rfl (Nat.zero_le _) (Nat.zero_le _) trivial rfl h
  · have h := h.2 q2
    refine v_lload 10 2 rfl rfl ?_
    refine v_lload 11 3 rfl rfl ?_
    have c3 := h.1
    have h := h.2
    have c4 := h.1
    have h := h.2
    refine v_lrem 12 rfl c3 c1 c4 ?_
    refine v_lstore 13 [1, 2, 3, 4, 0] rfl (by decide) rfl ?_
    refine v_lload 14 3 rfl rfl ?_
    refine v_lstore 15 [1, 2, 0, 3, 4] rfl (by decide) rfl ?_
    refine v_lload 16 4 rfl rfl ?_
    refine v_lstore 17 [1, 2, 3, 0, 4] rfl (by decide) rfl ?_
    refine v_goto 18 rfl (tgt := 12) rfl ?_
    refine v_loc [0, 1, 2, 3] rfl ?_
    exact h
theorem wX12_common {d n : Nat} {dy : Nat → Shp} {g : Hp} {P : Pst} {x0 : Int} {x2 : Int} (hn : 100 ≤ n) (h : (i6 x0) ∧ (i6 x2) ∧ V miX12_common (d + 1) 12 [(0, L_ x0), (2, L_ x2), (4, L_ (ab x0)), (6, L_ (ab x2))] [] n (W0 dy) g 0 0 P) : Runs miX12_common (d + 1) [L_ x0, L_ x2] n (W0 dy) g P := Runs.of rfl rfl deX12_common (Nat.le_of_ble_eq_true rfl) (bX12_common_0 hn h)
set_option maxHeartbeats 8000000 in
set_option maxRecDepth 4000 in
theorem bX12_isPart_0 {d n : Nat} {dy : Nat → Shp} {g : Hp} {P : Pst} {x1 : Int} (hn : 100 ≤ n) (h : (i3 x1) ∧ ((x1 < 0) → P (some (I_ 0)) n (W0 dy) g) ∧ ((0 ≤ x1) → (((g 53 5) ≤ x1) → P (some (I_ 0)) n (W0 dy) g) ∧ ((x1 < (g 53 5)) → P (some (I_ 1)) n (W0 dy) g))) : V miX12_isPart d 0 [(0, .ref 53), (1, I_ x1)] [] n (W0 dy) g 0 0 P := by
  refine v_iload_n 0 1 rfl rfl rfl ?_
  have c1 := h.1
  have h := h.2
  refine v_if_lt 1 rfl (tgt := 16) rfl c1 (fun q2 => ?_) (fun q2 => ?_)
  · have h := h.1 q2
    refine v_iconst 8 rfl ?_
    exact v_ret (v := some (I_ 0)) 9 rfl (Nat.zero_le _) (Nat.zero_le _) (Or.inl rfl) rfl h
  · have h := h.2 q2
    refine v_iload_n 2 1 rfl rfl rfl ?_
    refine v_aload_n 3 0 rfl rfl rfl ?_
    refine v_gI 4 rfl fl12_169_11.r (al 53 rfl hn) (wk53 dy) (by decide) rfl (wc53_5 dy) (x := g 53 5) rfl ?_
    refine v_rng fun w3 => ?_
    have p4 : i3 (g 53 5) := rI w3 (q := 5) (al 53 rfl hn) (wk53 dy) rfl rfl
    refine v_icmp_ge 5 rfl (tgt := 16) rfl c1 p4 (fun q5 => ?_) (fun q5 => ?_)
    · have h := h.1 q5
      refine v_iconst 8 rfl ?_
      exact v_ret (v := some (I_ 0)) 9 rfl (Nat.zero_le _) (Nat.zero_le _) (Or.inl rfl) rfl h
    · have h := h.2 q5
      refine v_iconst 6 rfl ?_
      refine v_goto 7 rfl (tgt := 17) rfl ?_
      exact v_ret (v := some (I_ 1)) 9 rfl (Nat.zero_le _) (Nat.zero_le _) (Or.inr rfl) rfl h
theorem wX12_isPart {d n : Nat} {dy : Nat → Shp} {g : Hp} {P : Pst} {x1 : Int} (hn : 100 ≤ n) (h : (i3 x1) ∧ ((x1 < 0) → P (some (I_ 0)) n (W0 dy) g) ∧ ((0 ≤ x1) → (((g 53 5) ≤ x1) → P (some (I_ 0)) n (W0 dy) g) ∧ ((x1 < (g 53 5)) → P (some (I_ 1)) n (W0 dy) g))) : Runs miX12_isPart d [.ref 53, I_ x1] n (W0 dy) g P := Runs.of rfl rfl deX12_isPart (Nat.le_of_ble_eq_true rfl) (bX12_isPart_0 hn h)
set_option maxHeartbeats 8000000 in
set_option maxRecDepth 4000 in
theorem bX12_isRod_0 {d n : Nat} {dy : Nat → Shp} {g : Hp} {P : Pst} {x1 : Int} (hn : 100 ≤ n) (h : (0 ≤ x1 ∧ x1 < 60) ∧ (((g 57 x1.toNat) = 2) → P (some (I_ 1)) n (W0 dy) g) ∧ (((g 57 x1.toNat) ≠ 2) → (((g 57 x1.toNat) ≠ 3) → P (some (I_ 0)) n (W0 dy) g) ∧ (((g 57 x1.toNat) = 3) → P (some (I_ 1)) n (W0 dy) g))) : V miX12_isRod d 0 [(0, .ref 53), (1, I_ x1)] [] n (W0 dy) g 0 0 P := by
  refine v_aload_n 0 0 rfl rfl rfl ?_
  refine v_gK 1 rfl fl12_20_11.r (al 53 rfl hn) (wk53 dy) (by decide) rfl (r := 57) (wc53_6 dy) ?_
  refine v_iload_n 2 1 rfl rfl rfl ?_
  have c1 := h.1
  have h := h.2
  refine v_ia (N := 60) 3 rfl (al 57 rfl hn) (wk57 dy) (wn57 dy) (by decide) c1 (y := g 57 x1.toNat) rfl ?_
  refine v_rng fun w2 => ?_
  have p3 : i3 (g 57 x1.toNat) := rI w2 (q := x1.toNat) (al 57 rfl hn) (wk57 dy) rfl rfl
  refine v_iconst 4 rfl ?_
  refine v_icmp_eq 5 rfl (tgt := 20) rfl p3 (by decide) (fun q4 => ?_) (fun q4 => ?_)
  · have h := h.1 q4
    refine v_iconst 12 rfl ?_
    refine v_goto 13 rfl (tgt := 25) rfl ?_
    exact v_ret (v := some (I_ 1)) 15 rfl (Nat.zero_le _) (Nat.zero_le _) (Or.inr rfl) rfl h
  · have h := h.2 q4
    refine v_aload_n 6 0 rfl rfl rfl ?_
    refine v_gK 7 rfl fl12_20_11.r (al 53 rfl hn) (wk53 dy) (by decide) rfl (r := 57) (wc53_6 dy) ?_
    refine v_iload_n 8 1 rfl rfl rfl ?_
    refine v_ia (N := 60) 9 rfl (al 57 rfl hn) (wk57 dy) (wn57 dy) (by decide) c1 (y := g 57 x1.toNat) rfl ?_
    refine v_rng fun w5 => ?_
    have p6 : i3 (g 57 x1.toNat) := rI w5 (q := x1.toNat) (al 57 rfl hn) (wk57 dy) rfl rfl
    refine v_iconst 10 rfl ?_
    refine v_icmp_ne 11 rfl (tgt := 24) rfl p6 (by decide) (fun q7 => ?_) (fun q7 => ?_)
    · have h := h.1 q7
      refine v_iconst 14 rfl ?_
      exact v_ret (v := some (I_ 0)) 15 rfl (Nat.zero_le _) (Nat.zero_le _) (Or.inl rfl) rfl h
    · have h := h.2 q7
      refine v_iconst 12 rfl ?_
      refine v_goto 13 rfl (tgt := 25) rfl ?_
      exact v_ret (v := some (I_ 1)) 15 rfl (Nat.zero_le _) (Nat.zero_le _) (Or.inr rfl) rfl h
theorem wX12_isRod {d n : Nat} {dy : Nat → Shp} {g : Hp} {P : Pst} {x1 : Int} (hn : 100 ≤ n) (h : (0 ≤ x1 ∧ x1 < 60) ∧ (((g 57 x1.toNat) = 2) → P (some (I_ 1)) n (W0 dy) g) ∧ (((g 57 x1.toNat) ≠ 2) → (((g 57 x1.toNat) ≠ 3) → P (some (I_ 0)) n (W0 dy) g) ∧ (((g 57 x1.toNat) = 3) → P (some (I_ 1)) n (W0 dy) g))) : Runs miX12_isRod d [.ref 53, I_ x1] n (W0 dy) g P := Runs.of rfl rfl deX12_isRod (Nat.le_of_ble_eq_true rfl) (bX12_isRod_0 hn h)
set_option maxHeartbeats 8000000 in
set_option maxRecDepth 4000 in
theorem bX12_topOf_0 {d n : Nat} {dy : Nat → Shp} {g : Hp} {P : Pst} {x1 : Int} (hn : 100 ≤ n) (h : V miX12_topOf d 2 [(0, .ref 53), (1, I_ x1), (2, I_ x1)] [] n (W0 dy) g 0 0 P) : V miX12_topOf d 0 [(0, .ref 53), (1, I_ x1)] [] n (W0 dy) g 0 0 P := by
  refine v_iload_n 0 1 rfl rfl rfl ?_
  refine v_istore_n 1 [1, 2, 0] rfl rfl (by decide) rfl ?_
  exact h
set_option maxHeartbeats 8000000 in
set_option maxRecDepth 4000 in
theorem bX12_topOf_2 {d n : Nat} {dy : Nat → Shp} {g : Hp} {P : Pst} {x1 : Int} {x2 : Int} (hn : 100 ≤ n) (h : (0 ≤ x2 ∧ x2 < 60) ∧ (((g 60 x2.toNat) < 0) → P (some (I_ x2)) n (W0 dy) g) ∧ ((0 ≤ (g 60 x2.toNat)) → V miX12_topOf d 2 [(0, .ref 53), (1, I_ x1), (2, I_ (g 60 x2.toNat))] [] n (W0 dy) g 0 0 P)) : V miX12_topOf d 2 [(0, .ref 53), (1, I_ x1), (2, I_ x2)] [] n (W0 dy) g 0 0 P := by
  refine v_aload_n 2 0 rfl rfl rfl ?_
  refine v_gK 3 rfl fl12_29_11.r (al 53 rfl hn) (wk53 dy) (by decide) rfl (r := 60) (wc53_9 dy) ?_
  refine v_iload_n 4 2 rfl rfl rfl ?_
  have c1 := h.1
  have h := h.2
  refine v_ia (N := 60) 5 rfl (al 60 rfl hn) (wk60 dy) (wn60 dy) (by decide) c1 (y := g 60 x2.toNat) rfl ?_
  refine v_rng fun w2 => ?_
  have p3 : i3 (g 60 x2.toNat) := rI w2 (q := x2.toNat) (al 60 rfl hn) (wk60 dy) rfl rfl
  refine v_if_lt 6 rfl (tgt := 21) rfl p3 (fun q4 => ?_) (fun q4 => ?_)
  · have h := h.1 q4
    refine v_iload_n 13 2 rfl rfl rfl ?_
    exact v_ret (v := some (I_ x2)) 14 rfl (Nat.zero_le _) (Nat.zero_le _) trivial rfl h
  · have h := h.2 q4
    refine v_aload_n 7 0 rfl rfl rfl ?_
    refine v_gK 8 rfl fl12_29_11.r (al 53 rfl hn) (wk53 dy) (by decide) rfl (r := 60) (wc53_9 dy) ?_
    refine v_iload_n 9 2 rfl rfl rfl ?_
    refine v_ia (N := 60) 10 rfl (al 60 rfl hn) (wk60 dy) (wn60 dy) (by decide) c1 (y := g 60 x2.toNat) rfl ?_
    refine v_rng fun w5 => ?_
    have p6 : i3 (g 60 x2.toNat) := rI w5 (q := x2.toNat) (al 60 rfl hn) (wk60 dy) rfl rfl
    refine v_istore_n 11 [1, 2, 0] rfl rfl (by decide) rfl ?_
    refine v_goto 12 rfl (tgt := 2) rfl ?_
    exact h
theorem wX12_topOf {d n : Nat} {dy : Nat → Shp} {g : Hp} {P : Pst} {x1 : Int} (hn : 100 ≤ n) (h : V miX12_topOf d 2 [(0, .ref 53), (1, I_ x1), (2, I_ x1)] [] n (W0 dy) g 0 0 P) : Runs miX12_topOf d [.ref 53, I_ x1] n (W0 dy) g P := Runs.of rfl rfl deX12_topOf (Nat.le_of_ble_eq_true rfl) (bX12_topOf_0 hn h)
set_option maxHeartbeats 8000000 in
set_option maxRecDepth 4000 in
theorem bX12_heightOf_0 {d n : Nat} {dy : Nat → Shp} {g : Hp} {P : Pst} {x1 : Int} (hn : 100 ≤ n) (h : V miX12_heightOf d 4 [(0, .ref 53), (1, I_ x1), (2, I_ 0), (3, I_ x1)] [] n (W0 dy) g 0 0 P) : V miX12_heightOf d 0 [(0, .ref 53), (1, I_ x1)] [] n (W0 dy) g 0 0 P := by
  refine v_iconst 0 rfl ?_
  refine v_istore_n 1 [1, 2, 0] rfl rfl (by decide) rfl ?_
  refine v_iload_n 2 1 rfl rfl rfl ?_
  refine v_istore_n 3 [1, 2, 3, 0] rfl rfl (by decide) rfl ?_
  exact h
set_option maxHeartbeats 8000000 in
set_option maxRecDepth 4000 in
theorem bX12_heightOf_4 {d n : Nat} {dy : Nat → Shp} {g : Hp} {P : Pst} {x1 : Int} {x2 : Int} {x3 : Int} (hn : 100 ≤ n) (h : (0 ≤ x3 ∧ x3 < 60) ∧ (((g 60 x3.toNat) < 0) → P (some (I_ x2)) n (W0 dy) g) ∧ ((0 ≤ (g 60 x3.toNat)) → V miX12_heightOf d 4 [(0, .ref 53), (1, I_ x1), (2, I_ (x2 + (g 62 x3.toNat))), (3, I_ (g 60 x3.toNat))] [] n (W0 dy) g 0 0 P)) : V miX12_heightOf d 4 [(0, .ref 53), (1, I_ x1), (2, I_ x2), (3, I_ x3)] [] n (W0 dy) g 0 0 P := by
  refine v_aload_n 4 0 rfl rfl rfl ?_
  refine v_gK 5 rfl fl12_29_11.r (al 53 rfl hn) (wk53 dy) (by decide) rfl (r := 60) (wc53_9 dy) ?_
  refine v_iload_n 6 3 rfl rfl rfl ?_
  have c1 := h.1
  have h := h.2
  refine v_ia (N := 60) 7 rfl (al 60 rfl hn) (wk60 dy) (wn60 dy) (by decide) c1 (y := g 60 x3.toNat) rfl ?_
  refine v_rng fun w2 => ?_
  have p3 : i3 (g 60 x3.toNat) := rI w2 (q := x3.toNat) (al 60 rfl hn) (wk60 dy) rfl rfl
  refine v_if_lt 8 rfl (tgt := 32) rfl p3 (fun q4 => ?_) (fun q4 => ?_)
  · have h := h.1 q4
    refine v_iload_n 22 2 rfl rfl rfl ?_
    exact v_ret (v := some (I_ x2)) 23 rfl (Nat.zero_le _) (Nat.zero_le _) trivial rfl h
  · have h := h.2 q4
    refine v_iload_n 9 2 rfl rfl rfl ?_
    refine v_aload_n 10 0 rfl rfl rfl ?_
    refine v_gK 11 rfl fl12_35_11.r (al 53 rfl hn) (wk53 dy) (by decide) rfl (r := 62) (wc53_11 dy) ?_
    refine v_iload_n 12 3 rfl rfl rfl ?_
    refine v_ia (N := 60) 13 rfl (al 62 rfl hn) (wk62 dy) (wn62 dy) (by decide) c1 (y := g 62 x3.toNat) rfl ?_
    refine v_rng fun w5 => ?_
    have p6 : i3 (g 62 x3.toNat) := rI w5 (q := x3.toNat) (al 62 rfl hn) (wk62 dy) rfl rfl
    refine v_iadd 14 rfl ?_
    refine v_istore_n 15 [1, 2, 0, 3] rfl rfl (by decide) rfl ?_
    refine v_aload_n 16 0 rfl rfl rfl ?_
    refine v_gK 17 rfl fl12_29_11.r (al 53 rfl hn) (wk53 dy) (by decide) rfl (r := 60) (wc53_9 dy) ?_
    refine v_iload_n 18 3 rfl rfl rfl ?_
    refine v_ia (N := 60) 19 rfl (al 60 rfl hn) (wk60 dy) (wn60 dy) (by decide) c1 (y := g 60 x3.toNat) rfl ?_
    refine v_rng fun w7 => ?_
    have p8 : i3 (g 60 x3.toNat) := rI w7 (q := x3.toNat) (al 60 rfl hn) (wk60 dy) rfl rfl
    refine v_istore_n 20 [1, 2, 3, 0] rfl rfl (by decide) rfl ?_
    refine v_goto 21 rfl (tgt := 4) rfl ?_
    exact h
theorem wX12_heightOf {d n : Nat} {dy : Nat → Shp} {g : Hp} {P : Pst} {x1 : Int} (hn : 100 ≤ n) (h : V miX12_heightOf d 4 [(0, .ref 53), (1, I_ x1), (2, I_ 0), (3, I_ x1)] [] n (W0 dy) g 0 0 P) : Runs miX12_heightOf d [.ref 53, I_ x1] n (W0 dy) g P := Runs.of rfl rfl deX12_heightOf (Nat.le_of_ble_eq_true rfl) (bX12_heightOf_0 hn h)
theorem lv12_222_part_11 : LkV miX12_part miX12_isPart 222 1 11 := ⟨⟨⟨tbG_in (List.mem_append_right _ (List.mem_of_getElem? (i := 1400) (by decide +kernel))) rfl, tbG_in (List.mem_append_right _ (List.mem_of_getElem? (i := 9) (by decide +kernel))) rfl, tbG_in (List.mem_append_right _ (List.mem_of_getElem? (i := 1397) (by decide +kernel))) rfl⟩, ⟨by decide +kernel, by decide +kernel, by decide +kernel⟩, by decide⟩, tbG_in (List.mem_append_right _ (List.mem_of_getElem? (i := 1399) (by decide +kernel))) rfl, RX12, TX12, 58, rfl, tbG_in (List.mem_append_left _ (List.mem_of_getElem? (i := 56) (by decide +kernel))) rfl⟩
theorem lv12_174_part_11 : LkV miX12_part miX12_refuse 174 1 11 := ⟨⟨⟨tbG_in (List.mem_append_right _ (List.mem_of_getElem? (i := 1351) (by decide +kernel))) rfl, tbG_in (List.mem_append_right _ (List.mem_of_getElem? (i := 9) (by decide +kernel))) rfl, tbG_in (List.mem_append_right _ (List.mem_of_getElem? (i := 1348) (by decide +kernel))) rfl⟩, ⟨by decide +kernel, by decide +kernel, by decide +kernel⟩, by decide⟩, tbG_in (List.mem_append_right _ (List.mem_of_getElem? (i := 1350) (by decide +kernel))) rfl, RX12, TX12, 58, rfl, tbG_in (List.mem_append_left _ (List.mem_of_getElem? (i := 50) (by decide +kernel))) rfl⟩
theorem lv12_231_part_11 : LkV miX12_part miX12_heightOf 231 1 11 := ⟨⟨⟨tbG_in (List.mem_append_right _ (List.mem_of_getElem? (i := 1412) (by decide +kernel))) rfl, tbG_in (List.mem_append_right _ (List.mem_of_getElem? (i := 9) (by decide +kernel))) rfl, tbG_in (List.mem_append_right _ (List.mem_of_getElem? (i := 1409) (by decide +kernel))) rfl⟩, ⟨by decide +kernel, by decide +kernel, by decide +kernel⟩, by decide⟩, tbG_in (List.mem_append_right _ (List.mem_of_getElem? (i := 1411) (by decide +kernel))) rfl, RX12, TX12, 58, rfl, tbG_in (List.mem_append_left _ (List.mem_of_getElem? (i := 57) (by decide +kernel))) rfl⟩
theorem lv12_234_part_11 : LkV miX12_part miX12_topOf 234 1 11 := ⟨⟨⟨tbG_in (List.mem_append_right _ (List.mem_of_getElem? (i := 1416) (by decide +kernel))) rfl, tbG_in (List.mem_append_right _ (List.mem_of_getElem? (i := 9) (by decide +kernel))) rfl, tbG_in (List.mem_append_right _ (List.mem_of_getElem? (i := 1413) (by decide +kernel))) rfl⟩, ⟨by decide +kernel, by decide +kernel, by decide +kernel⟩, by decide⟩, tbG_in (List.mem_append_right _ (List.mem_of_getElem? (i := 1415) (by decide +kernel))) rfl, RX12, TX12, 58, rfl, tbG_in (List.mem_append_left _ (List.mem_of_getElem? (i := 58) (by decide +kernel))) rfl⟩
set_option maxHeartbeats 8000000 in
set_option maxRecDepth 4000 in
theorem bX12_part_0 {d n : Nat} {dy : Nat → Shp} {g : Hp} {P : Pst} {x1 : Int} {x2 : Int} (hn : 100 ≤ n) (h : Runs miX12_isPart d [.ref 53, I_ x1] n (W0 dy) (up2 (up2 g 53 1 0) 53 0 0) (fun v n' S' g' => V miX12_part (d + 1) 15 [(0, .ref 53), (1, I_ x1), (2, I_ x2)] (v.toList ++ []) n' S' g' 0 0 P)) : V miX12_part (d + 1) 0 [(0, .ref 53), (1, I_ x1), (2, I_ x2)] [] n (W0 dy) g 0 0 P := by
  refine v_aload_n 0 0 rfl rfl rfl ?_
  refine v_iconst 1 rfl ?_
  refine v_putI 2 rfl fl12_148_11 (al 53 rfl hn) (wk53 dy) (by decide) rfl (wc53_1 dy) (by decide) ?_
  refine v_aload_n 3 0 rfl rfl rfl ?_
  refine v_iconst 4 rfl ?_
  refine v_putI 5 rfl fl12_152_11 (al 53 rfl hn) (wk53 dy) (by decide) rfl (wc53_0 dy) (by decide) ?_
  refine v_aload_n 6 0 rfl rfl rfl ?_
  refine v_iload_n 7 1 rfl rfl rfl ?_
  refine v_callV (st := []) [I_ x1] 8 rfl lv12_222_part_11 (al 53 rfl hn) (wk53 dy) (by decide) rfl (Nat.le_refl _) (Nat.le_refl _) ?_
  exact h
set_option maxHeartbeats 8000000 in
set_option maxRecDepth 4000 in
theorem bX12_part_15 {d n : Nat} {dy : Nat → Shp} {g : Hp} {P : Pst} {x1 : Int} {x2 : Int} {xs0 : Int} (hn : 100 ≤ n) (h : (i3 xs0) ∧ ((xs0 ≠ 0) → (i3 x2) ∧ ((x2 < 0 ∨ 6 < x2) → Runs miX12_refuse d [.ref 53, I_ 7] n (W0 dy) g (fun v n' S' g' => V miX12_part (d + 1) 122 [(0, .ref 53), (1, I_ x1), (2, I_ x2)] (v.toList ++ []) n' S' g' 0 0 P)) ∧ (x2 = 0 → (0 ≤ x1 ∧ x1 < 60) ∧ P (some (I_ (g 57 x1.toNat))) n (W0 dy) g) ∧ (x2 = 1 → (0 ≤ x1 ∧ x1 < 60) ∧ P (some (I_ (g 63 x1.toNat))) n (W0 dy) g) ∧ (x2 = 2 → (0 ≤ x1 ∧ x1 < 60) ∧ P (some (I_ (g 60 x1.toNat))) n (W0 dy) g) ∧ (x2 = 3 → (0 ≤ x1 ∧ x1 < 60) ∧ P (some (I_ (g 61 x1.toNat))) n (W0 dy) g) ∧ (x2 = 4 → (0 ≤ x1 ∧ x1 < 60) ∧ P (some (I_ (g 62 x1.toNat))) n (W0 dy) g) ∧ (x2 = 5 → Runs miX12_heightOf d [.ref 53, I_ x1] n (W0 dy) g (fun v n' S' g' => V miX12_part (d + 1) 109 [(0, .ref 53), (1, I_ x1), (2, I_ x2)] (v.toList ++ []) n' S' g' 0 0 P)) ∧ (x2 = 6 → Runs miX12_topOf d [.ref 53, I_ x1] n (W0 dy) g (fun v n' S' g' => V miX12_part (d + 1) 115 [(0, .ref 53), (1, I_ x1), (2, I_ x2)] (v.toList ++ []) n' S' g' 0 0 P))) ∧ ((xs0 = 0) → Runs miX12_refuse d [.ref 53, I_ 2] n (W0 dy) g (fun v n' S' g' => V miX12_part (d + 1) 23 [(0, .ref 53), (1, I_ x1), (2, I_ x2)] (v.toList ++ []) n' S' g' 0 0 P))) : V miX12_part (d + 1) 15 [(0, .ref 53), (1, I_ x1), (2, I_ x2)] [I_ xs0] n (W0 dy) g 0 0 P := by
  have c1 := h.1
  have h := h.2
  refine v_if_ne 9 rfl (tgt := 24) rfl c1 (fun q2 => ?_) (fun q2 => ?_)
  · have h := h.1 q2
    refine v_iload_n 14 2 rfl rfl rfl ?_
    have c3 := h.1
    have h := h.2
    by_cases q19 : x2 < 0 ∨ 6 < x2
    · have h := h.1 q19
      refine v_tswOut 15 rfl c3 q19 (tgt := 116) rfl ?_
      refine v_aload_n 50 0 rfl rfl rfl ?_
      refine v_bipush 51 rfl (by decide) ?_
      refine v_callV (st := []) [I_ 7] 52 rfl lv12_174_part_11 (al 53 rfl hn) (wk53 dy) (by decide) rfl (Nat.le_refl _) (Nat.le_refl _) ?_
      exact h
    by_cases q19_0 : x2 = 0
    · have h := h.2.1 q19_0
      refine v_tswIn 15 rfl c3 (by omega) (by omega) (off := 43) (tgt := 68) (by rw [q19_0]; rfl) rfl ?_
      refine v_aload_n 16 0 rfl rfl rfl ?_
      refine v_gK 17 rfl fl12_20_11.r (al 53 rfl hn) (wk53 dy) (by decide) rfl (r := 57) (wc53_6 dy) ?_
      refine v_iload_n 18 1 rfl rfl rfl ?_
      have c4 := h.1
      have h := h.2
      refine v_ia (N := 60) 19 rfl (al 57 rfl hn) (wk57 dy) (wn57 dy) (by decide) c4 (y := g 57 x1.toNat) rfl ?_
      refine v_rng fun w5 => ?_
      have p6 : i3 (g 57 x1.toNat) := rI w5 (q := x1.toNat) (al 57 rfl hn) (wk57 dy) rfl rfl
      exact v_ret (v := some (I_ (g 57 x1.toNat))) 20 rfl (Nat.zero_le _) (Nat.zero_le _) trivial rfl h
    by_cases q19_1 : x2 = 1
    · have h := h.2.2.1 q19_1
      refine v_tswIn 15 rfl c3 (by omega) (by omega) (off := 50) (tgt := 75) (by rw [q19_1]; rfl) rfl ?_
      refine v_aload_n 21 0 rfl rfl rfl ?_
      refine v_gK 22 rfl fl12_38_11.r (al 53 rfl hn) (wk53 dy) (by decide) rfl (r := 63) (wc53_12 dy) ?_
      refine v_iload_n 23 1 rfl rfl rfl ?_
      have c7 := h.1
      have h := h.2
      refine v_la (N := 60) 24 rfl (al 63 rfl hn) (wk63 dy) (wn63 dy) (by decide) c7 (y := g 63 x1.toNat) rfl ?_
      refine v_rng fun w8 => ?_
      have p9 : i6 (g 63 x1.toNat) := rL w8 (q := x1.toNat) (al 63 rfl hn) (wk63 dy) rfl rfl
      refine v_l2i 25 rfl ?_
      exact v_ret (v := some (I_ (g 63 x1.toNat))) 26 rfl (Nat.zero_le _) (Nat.zero_le _) trivial rfl h
    by_cases q19_2 : x2 = 2
    · have h := h.2.2.2.1 q19_2
      refine v_tswIn 15 rfl c3 (by omega) (by omega) (off := 58) (tgt := 83) (by rw [q19_2]; rfl) rfl ?_
      refine v_aload_n 27 0 rfl rfl rfl ?_
      refine v_gK 28 rfl fl12_29_11.r (al 53 rfl hn) (wk53 dy) (by decide) rfl (r := 60) (wc53_9 dy) ?_
      refine v_iload_n 29 1 rfl rfl rfl ?_
      have c10 := h.1
      have h := h.2
      refine v_ia (N := 60) 30 rfl (al 60 rfl hn) (wk60 dy) (wn60 dy) (by decide) c10 (y := g 60 x1.toNat) rfl ?_
      refine v_rng fun w11 => ?_
      have p12 : i3 (g 60 x1.toNat) := rI w11 (q := x1.toNat) (al 60 rfl hn) (wk60 dy) rfl rfl
      exact v_ret (v := some (I_ (g 60 x1.toNat))) 31 rfl (Nat.zero_le _) (Nat.zero_le _) trivial rfl h
    by_cases q19_3 : x2 = 3
    · have h := h.2.2.2.2.1 q19_3
      refine v_tswIn 15 rfl c3 (by omega) (by omega) (off := 65) (tgt := 90) (by rw [q19_3]; rfl) rfl ?_
      refine v_aload_n 32 0 rfl rfl rfl ?_
      refine v_gK 33 rfl fl12_32_11.r (al 53 rfl hn) (wk53 dy) (by decide) rfl (r := 61) (wc53_10 dy) ?_
      refine v_iload_n 34 1 rfl rfl rfl ?_
      have c13 := h.1
      have h := h.2
      refine v_ia (N := 60) 35 rfl (al 61 rfl hn) (wk61 dy) (wn61 dy) (by decide) c13 (y := g 61 x1.toNat) rfl ?_
      refine v_rng fun w14 => ?_
      have p15 : i3 (g 61 x1.toNat) := rI w14 (q := x1.toNat) (al 61 rfl hn) (wk61 dy) rfl rfl
      exact v_ret (v := some (I_ (g 61 x1.toNat))) 36 rfl (Nat.zero_le _) (Nat.zero_le _) trivial rfl h
    by_cases q19_4 : x2 = 4
    · have h := h.2.2.2.2.2.1 q19_4
      refine v_tswIn 15 rfl c3 (by omega) (by omega) (off := 72) (tgt := 97) (by rw [q19_4]; rfl) rfl ?_
      refine v_aload_n 37 0 rfl rfl rfl ?_
      refine v_gK 38 rfl fl12_35_11.r (al 53 rfl hn) (wk53 dy) (by decide) rfl (r := 62) (wc53_11 dy) ?_
      refine v_iload_n 39 1 rfl rfl rfl ?_
      have c16 := h.1
      have h := h.2
      refine v_ia (N := 60) 40 rfl (al 62 rfl hn) (wk62 dy) (wn62 dy) (by decide) c16 (y := g 62 x1.toNat) rfl ?_
      refine v_rng fun w17 => ?_
      have p18 : i3 (g 62 x1.toNat) := rI w17 (q := x1.toNat) (al 62 rfl hn) (wk62 dy) rfl rfl
      exact v_ret (v := some (I_ (g 62 x1.toNat))) 41 rfl (Nat.zero_le _) (Nat.zero_le _) trivial rfl h
    by_cases q19_5 : x2 = 5
    · have h := h.2.2.2.2.2.2.1 q19_5
      refine v_tswIn 15 rfl c3 (by omega) (by omega) (off := 79) (tgt := 104) (by rw [q19_5]; rfl) rfl ?_
      refine v_aload_n 42 0 rfl rfl rfl ?_
      refine v_iload_n 43 1 rfl rfl rfl ?_
      refine v_callV (st := []) [I_ x1] 44 rfl lv12_231_part_11 (al 53 rfl hn) (wk53 dy) (by decide) rfl (Nat.le_refl _) (Nat.le_refl _) ?_
      exact h
    by_cases q19_6 : x2 = 6
    · have h := h.2.2.2.2.2.2.2 q19_6
      refine v_tswIn 15 rfl c3 (by omega) (by omega) (off := 85) (tgt := 110) (by rw [q19_6]; rfl) rfl ?_
      refine v_aload_n 46 0 rfl rfl rfl ?_
      refine v_iload_n 47 1 rfl rfl rfl ?_
      refine v_callV (st := []) [I_ x1] 48 rfl lv12_234_part_11 (al 53 rfl hn) (wk53 dy) (by decide) rfl (Nat.le_refl _) (Nat.le_refl _) ?_
      exact h
    exfalso; omega
  · have h := h.2 q2
    refine v_aload_n 10 0 rfl rfl rfl ?_
    refine v_iconst 11 rfl ?_
    refine v_callV (st := []) [I_ 2] 12 rfl lv12_174_part_11 (al 53 rfl hn) (wk53 dy) (by decide) rfl (Nat.le_refl _) (Nat.le_refl _) ?_
    exact h
set_option maxHeartbeats 8000000 in
set_option maxRecDepth 4000 in
theorem bX12_part_23 {d n : Nat} {dy : Nat → Shp} {g : Hp} {P : Pst} {x1 : Int} {x2 : Int} {xs0 : Int} (hn : 100 ≤ n) (h : P (some (I_ xs0)) n (W0 dy) g) : V miX12_part (d + 1) 23 [(0, .ref 53), (1, I_ x1), (2, I_ x2)] [I_ xs0] n (W0 dy) g 0 0 P := by
  exact v_ret (v := some (I_ xs0)) 13 rfl (Nat.zero_le _) (Nat.zero_le _) trivial rfl h
set_option maxHeartbeats 8000000 in
set_option maxRecDepth 4000 in
theorem bX12_part_109 {d n : Nat} {dy : Nat → Shp} {g : Hp} {P : Pst} {x1 : Int} {x2 : Int} {xs0 : Int} (hn : 100 ≤ n) (h : P (some (I_ xs0)) n (W0 dy) g) : V miX12_part (d + 1) 109 [(0, .ref 53), (1, I_ x1), (2, I_ x2)] [I_ xs0] n (W0 dy) g 0 0 P := by
  exact v_ret (v := some (I_ xs0)) 45 rfl (Nat.zero_le _) (Nat.zero_le _) trivial rfl h
set_option maxHeartbeats 8000000 in
set_option maxRecDepth 4000 in
theorem bX12_part_115 {d n : Nat} {dy : Nat → Shp} {g : Hp} {P : Pst} {x1 : Int} {x2 : Int} {xs0 : Int} (hn : 100 ≤ n) (h : P (some (I_ xs0)) n (W0 dy) g) : V miX12_part (d + 1) 115 [(0, .ref 53), (1, I_ x1), (2, I_ x2)] [I_ xs0] n (W0 dy) g 0 0 P := by
  exact v_ret (v := some (I_ xs0)) 49 rfl (Nat.zero_le _) (Nat.zero_le _) trivial rfl h
set_option maxHeartbeats 8000000 in
set_option maxRecDepth 4000 in
theorem bX12_part_122 {d n : Nat} {dy : Nat → Shp} {g : Hp} {P : Pst} {x1 : Int} {x2 : Int} {xs0 : Int} (hn : 100 ≤ n) (h : P (some (I_ xs0)) n (W0 dy) g) : V miX12_part (d + 1) 122 [(0, .ref 53), (1, I_ x1), (2, I_ x2)] [I_ xs0] n (W0 dy) g 0 0 P := by
  exact v_ret (v := some (I_ xs0)) 53 rfl (Nat.zero_le _) (Nat.zero_le _) trivial rfl h
theorem wX12_part {d n : Nat} {dy : Nat → Shp} {g : Hp} {P : Pst} {x1 : Int} {x2 : Int} (hn : 100 ≤ n) (h : Runs miX12_isPart d [.ref 53, I_ x1] n (W0 dy) (up2 (up2 g 53 1 0) 53 0 0) (fun v n' S' g' => V miX12_part (d + 1) 15 [(0, .ref 53), (1, I_ x1), (2, I_ x2)] (v.toList ++ []) n' S' g' 0 0 P)) : Runs miX12_part (d + 1) [.ref 53, I_ x1, I_ x2] n (W0 dy) g P := Runs.of rfl rfl deX12_part (Nat.le_of_ble_eq_true rfl) (bX12_part_0 hn h)
theorem lv12_222_rodded_11 : LkV miX12_rodded miX12_isPart 222 1 11 := ⟨⟨⟨tbG_in (List.mem_append_right _ (List.mem_of_getElem? (i := 1400) (by decide +kernel))) rfl, tbG_in (List.mem_append_right _ (List.mem_of_getElem? (i := 9) (by decide +kernel))) rfl, tbG_in (List.mem_append_right _ (List.mem_of_getElem? (i := 1397) (by decide +kernel))) rfl⟩, ⟨by decide +kernel, by decide +kernel, by decide +kernel⟩, by decide⟩, tbG_in (List.mem_append_right _ (List.mem_of_getElem? (i := 1399) (by decide +kernel))) rfl, RX12, TX12, 58, rfl, tbG_in (List.mem_append_left _ (List.mem_of_getElem? (i := 56) (by decide +kernel))) rfl⟩
theorem lv12_237_rodded_11 : LkV miX12_rodded miX12_isRod 237 1 11 := ⟨⟨⟨tbG_in (List.mem_append_right _ (List.mem_of_getElem? (i := 1428) (by decide +kernel))) rfl, tbG_in (List.mem_append_right _ (List.mem_of_getElem? (i := 9) (by decide +kernel))) rfl, tbG_in (List.mem_append_right _ (List.mem_of_getElem? (i := 1425) (by decide +kernel))) rfl⟩, ⟨by decide +kernel, by decide +kernel, by decide +kernel⟩, by decide⟩, tbG_in (List.mem_append_right _ (List.mem_of_getElem? (i := 1427) (by decide +kernel))) rfl, RX12, TX12, 58, rfl, tbG_in (List.mem_append_left _ (List.mem_of_getElem? (i := 60) (by decide +kernel))) rfl⟩
set_option maxHeartbeats 8000000 in
set_option maxRecDepth 4000 in
theorem bX12_rodded_0 {d n : Nat} {dy : Nat → Shp} {g : Hp} {P : Pst} {x1 : Int} (hn : 100 ≤ n) (h : Runs miX12_isPart d [.ref 53, I_ x1] n (W0 dy) g (fun v n' S' g' => V miX12_rodded (d + 1) 5 [(0, .ref 53), (1, I_ x1)] (v.toList ++ []) n' S' g' 0 0 P)) : V miX12_rodded (d + 1) 0 [(0, .ref 53), (1, I_ x1)] [] n (W0 dy) g 0 0 P := by
  refine v_aload_n 0 0 rfl rfl rfl ?_
  refine v_iload_n 1 1 rfl rfl rfl ?_
  refine v_callV (st := []) [I_ x1] 2 rfl lv12_222_rodded_11 (al 53 rfl hn) (wk53 dy) (by decide) rfl (Nat.le_refl _) (Nat.le_refl _) ?_
  exact h
set_option maxHeartbeats 8000000 in
set_option maxRecDepth 4000 in
theorem bX12_rodded_5 {d n : Nat} {dy : Nat → Shp} {g : Hp} {P : Pst} {x1 : Int} {xs0 : Int} (hn : 100 ≤ n) (h : (i3 xs0) ∧ ((xs0 ≠ 0) → Runs miX12_isRod d [.ref 53, I_ x1] n (W0 dy) g (fun v n' S' g' => V miX12_rodded (d + 1) 17 [(0, .ref 53), (1, I_ x1)] (v.toList ++ []) n' S' g' 0 0 P)) ∧ ((xs0 = 0) → P (some (I_ 2)) n (W0 dy) g)) : V miX12_rodded (d + 1) 5 [(0, .ref 53), (1, I_ x1)] [I_ xs0] n (W0 dy) g 0 0 P := by
  have c1 := h.1
  have h := h.2
  refine v_if_ne 3 rfl (tgt := 12) rfl c1 (fun q2 => ?_) (fun q2 => ?_)
  · have h := h.1 q2
    refine v_aload_n 6 0 rfl rfl rfl ?_
    refine v_iload_n 7 1 rfl rfl rfl ?_
    refine v_callV (st := []) [I_ x1] 8 rfl lv12_237_rodded_11 (al 53 rfl hn) (wk53 dy) (by decide) rfl (Nat.le_refl _) (Nat.le_refl _) ?_
    exact h
  · have h := h.2 q2
    refine v_iconst 4 rfl ?_
    refine v_goto 5 rfl (tgt := 25) rfl ?_
    exact v_ret (v := some (I_ 2)) 13 rfl (Nat.zero_le _) (Nat.zero_le _) trivial rfl h
set_option maxHeartbeats 8000000 in
set_option maxRecDepth 4000 in
theorem bX12_rodded_17 {d n : Nat} {dy : Nat → Shp} {g : Hp} {P : Pst} {x1 : Int} {xs0 : Int} (hn : 100 ≤ n) (h : (i3 xs0) ∧ ((xs0 = 0) → P (some (I_ 5)) n (W0 dy) g) ∧ ((xs0 ≠ 0) → P (some (I_ 0)) n (W0 dy) g)) : V miX12_rodded (d + 1) 17 [(0, .ref 53), (1, I_ x1)] [I_ xs0] n (W0 dy) g 0 0 P := by
  have c1 := h.1
  have h := h.2
  refine v_if_eq 9 rfl (tgt := 24) rfl c1 (fun q2 => ?_) (fun q2 => ?_)
  · have h := h.1 q2
    refine v_iconst 12 rfl ?_
    exact v_ret (v := some (I_ 5)) 13 rfl (Nat.zero_le _) (Nat.zero_le _) trivial rfl h
  · have h := h.2 q2
    refine v_iconst 10 rfl ?_
    refine v_goto 11 rfl (tgt := 25) rfl ?_
    exact v_ret (v := some (I_ 0)) 13 rfl (Nat.zero_le _) (Nat.zero_le _) trivial rfl h
theorem wX12_rodded {d n : Nat} {dy : Nat → Shp} {g : Hp} {P : Pst} {x1 : Int} (hn : 100 ≤ n) (h : Runs miX12_isPart d [.ref 53, I_ x1] n (W0 dy) g (fun v n' S' g' => V miX12_rodded (d + 1) 5 [(0, .ref 53), (1, I_ x1)] (v.toList ++ []) n' S' g' 0 0 P)) : Runs miX12_rodded (d + 1) [.ref 53, I_ x1] n (W0 dy) g P := Runs.of rfl rfl deX12_rodded (Nat.le_of_ble_eq_true rfl) (bX12_rodded_0 hn h)
theorem lv12_240_rodAt_11 : LkV miX12_rodAt miX12_rodded 240 1 11 := ⟨⟨⟨tbG_in (List.mem_append_right _ (List.mem_of_getElem? (i := 1424) (by decide +kernel))) rfl, tbG_in (List.mem_append_right _ (List.mem_of_getElem? (i := 9) (by decide +kernel))) rfl, tbG_in (List.mem_append_right _ (List.mem_of_getElem? (i := 1421) (by decide +kernel))) rfl⟩, ⟨by decide +kernel, by decide +kernel, by decide +kernel⟩, by decide⟩, tbG_in (List.mem_append_right _ (List.mem_of_getElem? (i := 1423) (by decide +kernel))) rfl, RX12, TX12, 58, rfl, tbG_in (List.mem_append_left _ (List.mem_of_getElem? (i := 59) (by decide +kernel))) rfl⟩
theorem lv12_174_rodAt_11 : LkV miX12_rodAt miX12_refuse 174 1 11 := ⟨⟨⟨tbG_in (List.mem_append_right _ (List.mem_of_getElem? (i := 1351) (by decide +kernel))) rfl, tbG_in (List.mem_append_right _ (List.mem_of_getElem? (i := 9) (by decide +kernel))) rfl, tbG_in (List.mem_append_right _ (List.mem_of_getElem? (i := 1348) (by decide +kernel))) rfl⟩, ⟨by decide +kernel, by decide +kernel, by decide +kernel⟩, by decide⟩, tbG_in (List.mem_append_right _ (List.mem_of_getElem? (i := 1350) (by decide +kernel))) rfl, RX12, TX12, 58, rfl, tbG_in (List.mem_append_left _ (List.mem_of_getElem? (i := 50) (by decide +kernel))) rfl⟩
set_option maxHeartbeats 8000000 in
set_option maxRecDepth 4000 in
theorem bX12_rodAt_0 {d n : Nat} {dy : Nat → Shp} {g : Hp} {P : Pst} {x1 : Int} {x2 : Int} (hn : 100 ≤ n) (h : Runs miX12_rodded d [.ref 53, I_ x1] n (W0 dy) (up2 g 53 1 0) (fun v n' S' g' => V miX12_rodAt (d + 1) 11 [(0, .ref 53), (1, I_ x1), (2, I_ x2)] (v.toList ++ [.ref 53]) n' S' g' 0 0 P)) : V miX12_rodAt (d + 1) 0 [(0, .ref 53), (1, I_ x1), (2, I_ x2)] [] n (W0 dy) g 0 0 P := by
  refine v_aload_n 0 0 rfl rfl rfl ?_
  refine v_iconst 1 rfl ?_
  refine v_putI 2 rfl fl12_148_11 (al 53 rfl hn) (wk53 dy) (by decide) rfl (wc53_1 dy) (by decide) ?_
  refine v_aload_n 3 0 rfl rfl rfl ?_
  refine v_aload_n 4 0 rfl rfl rfl ?_
  refine v_iload_n 5 1 rfl rfl rfl ?_
  refine v_callV (st := [.ref 53]) [I_ x1] 6 rfl lv12_240_rodAt_11 (al 53 rfl hn) (wk53 dy) (by decide) rfl (Nat.le_refl _) (Nat.le_refl _) ?_
  exact h
set_option maxHeartbeats 8000000 in
set_option maxRecDepth 4000 in
theorem bX12_rodAt_11 {d n : Nat} {dy : Nat → Shp} {g : Hp} {P : Pst} {x1 : Int} {x2 : Int} {xs1 : Int} (hn : 100 ≤ n) (h : (i3 xs1) ∧ ((xs1 ≤ 0) → (i3 x2) ∧ ((x2 < 0 ∨ 5 < x2) → Runs miX12_refuse d [.ref 53, I_ 7] n (W0 dy) (up2 g 53 0 xs1) (fun v n' S' g' => V miX12_rodAt (d + 1) 116 [(0, .ref 53), (1, I_ x1), (2, I_ x2)] (v.toList ++ []) n' S' g' 0 0 P)) ∧ (x2 = 0 → (0 ≤ x1 ∧ x1 < 60) ∧ P (some (L_ (g 59 x1.toNat))) n (W0 dy) (up2 g 53 0 xs1)) ∧ (x2 = 1 → (0 ≤ x1 ∧ x1 < 60) ∧ P (some (L_ (g 58 x1.toNat))) n (W0 dy) (up2 g 53 0 xs1)) ∧ (x2 = 2 → (0 ≤ x1 ∧ x1 < 60) ∧ P (some (L_ (g 64 x1.toNat))) n (W0 dy) (up2 g 53 0 xs1)) ∧ (x2 = 3 → (0 ≤ x1 ∧ x1 < 60) ∧ P (some (L_ (g 65 x1.toNat))) n (W0 dy) (up2 g 53 0 xs1)) ∧ (x2 = 4 → (0 ≤ x1 ∧ x1 < 60) ∧ P (some (L_ (g 66 x1.toNat))) n (W0 dy) (up2 g 53 0 xs1)) ∧ (x2 = 5 → (0 ≤ x1 ∧ x1 < 60) ∧ P (some (L_ (g 67 x1.toNat))) n (W0 dy) (up2 g 53 0 xs1))) ∧ ((0 < xs1) → P (some (L_ ((-1)))) n (W0 dy) (up2 g 53 0 xs1))) : V miX12_rodAt (d + 1) 11 [(0, .ref 53), (1, I_ x1), (2, I_ x2)] [I_ xs1, .ref 53] n (W0 dy) g 0 0 P := by
  have c1 := h.1
  have h := h.2
  refine v_putI 7 rfl fl12_152_11 (al 53 rfl hn) (wk53 dy) (by decide) rfl (wc53_0 dy) c1 ?_
  refine v_aload_n 8 0 rfl rfl rfl ?_
  refine v_gI 9 rfl fl12_152_11.r (al 53 rfl hn) (wk53 dy) (by decide) rfl (wc53_0 dy) (x := xs1) rfl ?_
  refine v_rng fun w2 => ?_
  have p3 : i3 (xs1) := rI w2 (q := 0) (al 53 rfl hn) (wk53 dy) rfl rfl
  refine v_if_le 10 rfl (tgt := 25) rfl p3 (fun q4 => ?_) (fun q4 => ?_)
  · have h := h.1 q4
    refine v_iload_n 13 2 rfl rfl rfl ?_
    have c5 := h.1
    have h := h.2
    by_cases q24 : x2 < 0 ∨ 5 < x2
    · have h := h.1 q24
      refine v_tswOut 14 rfl c5 q24 (tgt := 110) rfl ?_
      refine v_aload_n 49 0 rfl rfl rfl ?_
      refine v_bipush 50 rfl (by decide) ?_
      refine v_callV (st := []) [I_ 7] 51 rfl lv12_174_rodAt_11 (al 53 rfl hn) (wk53 dy) (by decide) rfl (Nat.le_refl _) (Nat.le_refl _) ?_
      exact h
    by_cases q24_0 : x2 = 0
    · have h := h.2.1 q24_0
      refine v_tswIn 14 rfl c5 (by omega) (by omega) (off := 38) (tgt := 64) (by rw [q24_0]; rfl) rfl ?_
      refine v_aload_n 15 0 rfl rfl rfl ?_
      refine v_gK 16 rfl fl12_26_11.r (al 53 rfl hn) (wk53 dy) (by decide) rfl (r := 59) (wc53_8 dy) ?_
      refine v_iload_n 17 1 rfl rfl rfl ?_
      have c6 := h.1
      have h := h.2
      refine v_ia (N := 60) 18 rfl (al 59 rfl hn) (wk59 dy) (wn59 dy) (by decide) c6 (y := g 59 x1.toNat) rfl ?_
      refine v_rng fun w7 => ?_
      have p8 : i3 (g 59 x1.toNat) := rI w7 (q := x1.toNat) (al 59 rfl hn) (wk59 dy) rfl rfl
      refine v_i2l 19 rfl p8 ?_
      exact v_ret (v := some (L_ (g 59 x1.toNat))) 20 rfl (Nat.zero_le _) (Nat.zero_le _) trivial rfl h
    by_cases q24_1 : x2 = 1
    · have h := h.2.2.1 q24_1
      refine v_tswIn 14 rfl c5 (by omega) (by omega) (off := 46) (tgt := 72) (by rw [q24_1]; rfl) rfl ?_
      refine v_aload_n 21 0 rfl rfl rfl ?_
      refine v_gK 22 rfl fl12_23_11.r (al 53 rfl hn) (wk53 dy) (by decide) rfl (r := 58) (wc53_7 dy) ?_
      refine v_iload_n 23 1 rfl rfl rfl ?_
      have c9 := h.1
      have h := h.2
      refine v_ia (N := 60) 24 rfl (al 58 rfl hn) (wk58 dy) (wn58 dy) (by decide) c9 (y := g 58 x1.toNat) rfl ?_
      refine v_rng fun w10 => ?_
      have p11 : i3 (g 58 x1.toNat) := rI w10 (q := x1.toNat) (al 58 rfl hn) (wk58 dy) rfl rfl
      refine v_i2l 25 rfl p11 ?_
      exact v_ret (v := some (L_ (g 58 x1.toNat))) 26 rfl (Nat.zero_le _) (Nat.zero_le _) trivial rfl h
    by_cases q24_2 : x2 = 2
    · have h := h.2.2.2.1 q24_2
      refine v_tswIn 14 rfl c5 (by omega) (by omega) (off := 54) (tgt := 80) (by rw [q24_2]; rfl) rfl ?_
      refine v_aload_n 27 0 rfl rfl rfl ?_
      refine v_gK 28 rfl fl12_41_11.r (al 53 rfl hn) (wk53 dy) (by decide) rfl (r := 64) (wc53_13 dy) ?_
      refine v_iload_n 29 1 rfl rfl rfl ?_
      have c12 := h.1
      have h := h.2
      refine v_la (N := 60) 30 rfl (al 64 rfl hn) (wk64 dy) (wn64 dy) (by decide) c12 (y := g 64 x1.toNat) rfl ?_
      refine v_rng fun w13 => ?_
      have p14 : i6 (g 64 x1.toNat) := rL w13 (q := x1.toNat) (al 64 rfl hn) (wk64 dy) rfl rfl
      exact v_ret (v := some (L_ (g 64 x1.toNat))) 31 rfl (Nat.zero_le _) (Nat.zero_le _) trivial rfl h
    by_cases q24_3 : x2 = 3
    · have h := h.2.2.2.2.1 q24_3
      refine v_tswIn 14 rfl c5 (by omega) (by omega) (off := 61) (tgt := 87) (by rw [q24_3]; rfl) rfl ?_
      refine v_aload_n 32 0 rfl rfl rfl ?_
      refine v_gK 33 rfl fl12_44_11.r (al 53 rfl hn) (wk53 dy) (by decide) rfl (r := 65) (wc53_14 dy) ?_
      refine v_iload_n 34 1 rfl rfl rfl ?_
      have c15 := h.1
      have h := h.2
      refine v_la (N := 60) 35 rfl (al 65 rfl hn) (wk65 dy) (wn65 dy) (by decide) c15 (y := g 65 x1.toNat) rfl ?_
      refine v_rng fun w16 => ?_
      have p17 : i6 (g 65 x1.toNat) := rL w16 (q := x1.toNat) (al 65 rfl hn) (wk65 dy) rfl rfl
      exact v_ret (v := some (L_ (g 65 x1.toNat))) 36 rfl (Nat.zero_le _) (Nat.zero_le _) trivial rfl h
    by_cases q24_4 : x2 = 4
    · have h := h.2.2.2.2.2.1 q24_4
      refine v_tswIn 14 rfl c5 (by omega) (by omega) (off := 68) (tgt := 94) (by rw [q24_4]; rfl) rfl ?_
      refine v_aload_n 37 0 rfl rfl rfl ?_
      refine v_gK 38 rfl fl12_47_11.r (al 53 rfl hn) (wk53 dy) (by decide) rfl (r := 66) (wc53_15 dy) ?_
      refine v_iload_n 39 1 rfl rfl rfl ?_
      have c18 := h.1
      have h := h.2
      refine v_ia (N := 60) 40 rfl (al 66 rfl hn) (wk66 dy) (wn66 dy) (by decide) c18 (y := g 66 x1.toNat) rfl ?_
      refine v_rng fun w19 => ?_
      have p20 : i3 (g 66 x1.toNat) := rI w19 (q := x1.toNat) (al 66 rfl hn) (wk66 dy) rfl rfl
      refine v_i2l 41 rfl p20 ?_
      exact v_ret (v := some (L_ (g 66 x1.toNat))) 42 rfl (Nat.zero_le _) (Nat.zero_le _) trivial rfl h
    by_cases q24_5 : x2 = 5
    · have h := h.2.2.2.2.2.2 q24_5
      refine v_tswIn 14 rfl c5 (by omega) (by omega) (off := 76) (tgt := 102) (by rw [q24_5]; rfl) rfl ?_
      refine v_aload_n 43 0 rfl rfl rfl ?_
      refine v_gK 44 rfl fl12_50_11.r (al 53 rfl hn) (wk53 dy) (by decide) rfl (r := 67) (wc53_16 dy) ?_
      refine v_iload_n 45 1 rfl rfl rfl ?_
      have c21 := h.1
      have h := h.2
      refine v_ia (N := 60) 46 rfl (al 67 rfl hn) (wk67 dy) (wn67 dy) (by decide) c21 (y := g 67 x1.toNat) rfl ?_
      refine v_rng fun w22 => ?_
      have p23 : i3 (g 67 x1.toNat) := rI w22 (q := x1.toNat) (al 67 rfl hn) (wk67 dy) rfl rfl
      refine v_i2l 47 rfl p23 ?_
      exact v_ret (v := some (L_ (g 67 x1.toNat))) 48 rfl (Nat.zero_le _) (Nat.zero_le _) trivial rfl h
    exfalso; omega
  · have h := h.2 q4
    refine v_ldc2 (v := (-1)) 11 rfl (tbG_in (List.mem_append_right _ (List.mem_of_getElem? (i := 1334) (by decide +kernel))) rfl) ?_
    exact v_ret (v := some (L_ ((-1)))) 12 rfl (Nat.zero_le _) (Nat.zero_le _) trivial rfl h
set_option maxHeartbeats 8000000 in
set_option maxRecDepth 4000 in
theorem bX12_rodAt_116 {d n : Nat} {dy : Nat → Shp} {g : Hp} {P : Pst} {x1 : Int} {x2 : Int} {xs0 : Int} (hn : 100 ≤ n) (h : (i3 xs0) ∧ P (some (L_ xs0)) n (W0 dy) g) : V miX12_rodAt (d + 1) 116 [(0, .ref 53), (1, I_ x1), (2, I_ x2)] [I_ xs0] n (W0 dy) g 0 0 P := by
  have c1 := h.1
  have h := h.2
  refine v_i2l 52 rfl c1 ?_
  exact v_ret (v := some (L_ xs0)) 53 rfl (Nat.zero_le _) (Nat.zero_le _) trivial rfl h
theorem wX12_rodAt {d n : Nat} {dy : Nat → Shp} {g : Hp} {P : Pst} {x1 : Int} {x2 : Int} (hn : 100 ≤ n) (h : Runs miX12_rodded d [.ref 53, I_ x1] n (W0 dy) (up2 g 53 1 0) (fun v n' S' g' => V miX12_rodAt (d + 1) 11 [(0, .ref 53), (1, I_ x1), (2, I_ x2)] (v.toList ++ [.ref 53]) n' S' g' 0 0 P)) : Runs miX12_rodAt (d + 1) [.ref 53, I_ x1, I_ x2] n (W0 dy) g P := Runs.of rfl rfl deX12_rodAt (Nat.le_of_ble_eq_true rfl) (bX12_rodAt_0 hn h)
set_option maxHeartbeats 8000000 in
set_option maxRecDepth 4000 in
theorem bX12_isAbove_0 {d n : Nat} {dy : Nat → Shp} {g : Hp} {P : Pst} {x1 : Int} {x2 : Int} (hn : 100 ≤ n) (h : V miX12_isAbove d 2 [(0, .ref 53), (1, I_ x1), (2, I_ x2), (3, I_ x2)] [] n (W0 dy) g 0 0 P) : V miX12_isAbove d 0 [(0, .ref 53), (1, I_ x1), (2, I_ x2)] [] n (W0 dy) g 0 0 P := by
  refine v_iload_n 0 2 rfl rfl rfl ?_
  refine v_istore_n 1 [1, 2, 3, 0] rfl rfl (by decide) rfl ?_
  exact h
set_option maxHeartbeats 8000000 in
set_option maxRecDepth 4000 in
theorem bX12_isAbove_2 {d n : Nat} {dy : Nat → Shp} {g : Hp} {P : Pst} {x1 : Int} {x2 : Int} {x3 : Int} (hn : 100 ≤ n) (h : (i3 x3) ∧ ((x3 < 0) → (i3 x1) ∧ ((x3 ≠ x1) → P (some (I_ 0)) n (W0 dy) g) ∧ ((x3 = x1) → P (some (I_ 1)) n (W0 dy) g)) ∧ ((0 ≤ x3) → (i3 x1) ∧ ((x3 = x1) → ((x3 ≠ x1) → P (some (I_ 0)) n (W0 dy) g) ∧ ((x3 = x1) → P (some (I_ 1)) n (W0 dy) g)) ∧ ((x3 ≠ x1) → (0 ≤ x3 ∧ x3 < 60) ∧ V miX12_isAbove d 2 [(0, .ref 53), (1, I_ x1), (2, I_ x2), (3, I_ (g 60 x3.toNat))] [] n (W0 dy) g 0 0 P))) : V miX12_isAbove d 2 [(0, .ref 53), (1, I_ x1), (2, I_ x2), (3, I_ x3)] [] n (W0 dy) g 0 0 P := by
  refine v_iload_n 2 3 rfl rfl rfl ?_
  have c1 := h.1
  have h := h.2
  refine v_if_lt 3 rfl (tgt := 21) rfl c1 (fun q2 => ?_) (fun q2 => ?_)
  · have h := h.1 q2
    refine v_iload_n 13 3 rfl rfl rfl ?_
    refine v_iload_n 14 1 rfl rfl rfl ?_
    have c3 := h.1
    have h := h.2
    refine v_icmp_ne 15 rfl (tgt := 30) rfl c1 c3 (fun q4 => ?_) (fun q4 => ?_)
    · have h := h.1 q4
      refine v_iconst 18 rfl ?_
      exact v_ret (v := some (I_ 0)) 19 rfl (Nat.zero_le _) (Nat.zero_le _) (Or.inl rfl) rfl h
    · have h := h.2 q4
      refine v_iconst 16 rfl ?_
      refine v_goto 17 rfl (tgt := 31) rfl ?_
      exact v_ret (v := some (I_ 1)) 19 rfl (Nat.zero_le _) (Nat.zero_le _) (Or.inr rfl) rfl h
  · have h := h.2 q2
    refine v_iload_n 4 3 rfl rfl rfl ?_
    refine v_iload_n 5 1 rfl rfl rfl ?_
    have c5 := h.1
    have h := h.2
    refine v_icmp_eq 6 rfl (tgt := 21) rfl c1 c5 (fun q6 => ?_) (fun q6 => ?_)
    · have h := h.1 q6
      refine v_iload_n 13 3 rfl rfl rfl ?_
      refine v_iload_n 14 1 rfl rfl rfl ?_
      refine v_icmp_ne 15 rfl (tgt := 30) rfl c1 c5 (fun q7 => ?_) (fun q7 => ?_)
      · have h := h.1 q7
        refine v_iconst 18 rfl ?_
        exact v_ret (v := some (I_ 0)) 19 rfl (Nat.zero_le _) (Nat.zero_le _) (Or.inl rfl) rfl h
      · have h := h.2 q7
        refine v_iconst 16 rfl ?_
        refine v_goto 17 rfl (tgt := 31) rfl ?_
        exact v_ret (v := some (I_ 1)) 19 rfl (Nat.zero_le _) (Nat.zero_le _) (Or.inr rfl) rfl h
    · have h := h.2 q6
      refine v_aload_n 7 0 rfl rfl rfl ?_
      refine v_gK 8 rfl fl12_29_11.r (al 53 rfl hn) (wk53 dy) (by decide) rfl (r := 60) (wc53_9 dy) ?_
      refine v_iload_n 9 3 rfl rfl rfl ?_
      have c8 := h.1
      have h := h.2
      refine v_ia (N := 60) 10 rfl (al 60 rfl hn) (wk60 dy) (wn60 dy) (by decide) c8 (y := g 60 x3.toNat) rfl ?_
      refine v_rng fun w9 => ?_
      have p10 : i3 (g 60 x3.toNat) := rI w9 (q := x3.toNat) (al 60 rfl hn) (wk60 dy) rfl rfl
      refine v_istore_n 11 [1, 2, 3, 0] rfl rfl (by decide) rfl ?_
      refine v_goto 12 rfl (tgt := 2) rfl ?_
      exact h
theorem wX12_isAbove {d n : Nat} {dy : Nat → Shp} {g : Hp} {P : Pst} {x1 : Int} {x2 : Int} (hn : 100 ≤ n) (h : V miX12_isAbove d 2 [(0, .ref 53), (1, I_ x1), (2, I_ x2), (3, I_ x2)] [] n (W0 dy) g 0 0 P) : Runs miX12_isAbove d [.ref 53, I_ x1, I_ x2] n (W0 dy) g P := Runs.of rfl rfl deX12_isAbove (Nat.le_of_ble_eq_true rfl) (bX12_isAbove_0 hn h)
theorem lv12_222_hang_11 : LkV miX12_hang miX12_isPart 222 1 11 := ⟨⟨⟨tbG_in (List.mem_append_right _ (List.mem_of_getElem? (i := 1400) (by decide +kernel))) rfl, tbG_in (List.mem_append_right _ (List.mem_of_getElem? (i := 9) (by decide +kernel))) rfl, tbG_in (List.mem_append_right _ (List.mem_of_getElem? (i := 1397) (by decide +kernel))) rfl⟩, ⟨by decide +kernel, by decide +kernel, by decide +kernel⟩, by decide⟩, tbG_in (List.mem_append_right _ (List.mem_of_getElem? (i := 1399) (by decide +kernel))) rfl, RX12, TX12, 58, rfl, tbG_in (List.mem_append_left _ (List.mem_of_getElem? (i := 56) (by decide +kernel))) rfl⟩
theorem lv12_155_hang_11 : LkV miX12_hang miX12_no 155 1 11 := ⟨⟨⟨tbG_in (List.mem_append_right _ (List.mem_of_getElem? (i := 1318) (by decide +kernel))) rfl, tbG_in (List.mem_append_right _ (List.mem_of_getElem? (i := 9) (by decide +kernel))) rfl, tbG_in (List.mem_append_right _ (List.mem_of_getElem? (i := 1315) (by decide +kernel))) rfl⟩, ⟨by decide +kernel, by decide +kernel, by decide +kernel⟩, by decide⟩, tbG_in (List.mem_append_right _ (List.mem_of_getElem? (i := 1317) (by decide +kernel))) rfl, RX12, TX12, 58, rfl, tbG_in (List.mem_append_left _ (List.mem_of_getElem? (i := 47) (by decide +kernel))) rfl⟩
theorem lv12_237_hang_11 : LkV miX12_hang miX12_isRod 237 1 11 := ⟨⟨⟨tbG_in (List.mem_append_right _ (List.mem_of_getElem? (i := 1428) (by decide +kernel))) rfl, tbG_in (List.mem_append_right _ (List.mem_of_getElem? (i := 9) (by decide +kernel))) rfl, tbG_in (List.mem_append_right _ (List.mem_of_getElem? (i := 1425) (by decide +kernel))) rfl⟩, ⟨by decide +kernel, by decide +kernel, by decide +kernel⟩, by decide⟩, tbG_in (List.mem_append_right _ (List.mem_of_getElem? (i := 1427) (by decide +kernel))) rfl, RX12, TX12, 58, rfl, tbG_in (List.mem_append_left _ (List.mem_of_getElem? (i := 60) (by decide +kernel))) rfl⟩
theorem lv12_243_hang_11 : LkV miX12_hang miX12_isAbove 243 2 11 := ⟨⟨⟨tbG_in (List.mem_append_right _ (List.mem_of_getElem? (i := 1436) (by decide +kernel))) rfl, tbG_in (List.mem_append_right _ (List.mem_of_getElem? (i := 9) (by decide +kernel))) rfl, tbG_in (List.mem_append_right _ (List.mem_of_getElem? (i := 1433) (by decide +kernel))) rfl⟩, ⟨by decide +kernel, by decide +kernel, by decide +kernel⟩, by decide⟩, tbG_in (List.mem_append_right _ (List.mem_of_getElem? (i := 1435) (by decide +kernel))) rfl, RX12, TX12, 58, rfl, tbG_in (List.mem_append_left _ (List.mem_of_getElem? (i := 61) (by decide +kernel))) rfl⟩
set_option maxHeartbeats 8000000 in
set_option maxRecDepth 4000 in
theorem bX12_hang_0 {d n : Nat} {dy : Nat → Shp} {g : Hp} {P : Pst} {x1 : Int} {x2 : Int} {x3 : Int} {x4 : Int} (hn : 100 ≤ n) (h : Runs miX12_isPart d [.ref 53, I_ x1] n (W0 dy) (up2 (up2 g 53 1 0) 53 0 0) (fun v n' S' g' => V miX12_hang (d + 1) 15 [(0, .ref 53), (1, I_ x1), (2, I_ x2), (3, I_ x3), (4, I_ x4)] (v.toList ++ []) n' S' g' 0 0 P)) : V miX12_hang (d + 1) 0 [(0, .ref 53), (1, I_ x1), (2, I_ x2), (3, I_ x3), (4, I_ x4)] [] n (W0 dy) g 0 0 P := by
  refine v_aload_n 0 0 rfl rfl rfl ?_
  refine v_iconst 1 rfl ?_
  refine v_putI 2 rfl fl12_148_11 (al 53 rfl hn) (wk53 dy) (by decide) rfl (wc53_1 dy) (by decide) ?_
  refine v_aload_n 3 0 rfl rfl rfl ?_
  refine v_iconst 4 rfl ?_
  refine v_putI 5 rfl fl12_152_11 (al 53 rfl hn) (wk53 dy) (by decide) rfl (wc53_0 dy) (by decide) ?_
  refine v_aload_n 6 0 rfl rfl rfl ?_
  refine v_iload_n 7 1 rfl rfl rfl ?_
  refine v_callV (st := []) [I_ x1] 8 rfl lv12_222_hang_11 (al 53 rfl hn) (wk53 dy) (by decide) rfl (Nat.le_refl _) (Nat.le_refl _) ?_
  exact h
set_option maxHeartbeats 8000000 in
set_option maxRecDepth 4000 in
theorem bX12_hang_15 {d n : Nat} {dy : Nat → Shp} {g : Hp} {P : Pst} {x1 : Int} {x2 : Int} {x3 : Int} {x4 : Int} {xs0 : Int} (hn : 100 ≤ n) (h : (i3 xs0) ∧ ((xs0 = 0) → Runs miX12_no d [.ref 53, I_ 2] n (W0 dy) g (fun v n' S' g' => V miX12_hang (d + 1) 31 [(0, .ref 53), (1, I_ x1), (2, I_ x2), (3, I_ x3), (4, I_ x4)] (v.toList ++ []) n' S' g' 0 0 P)) ∧ ((xs0 ≠ 0) → Runs miX12_isPart d [.ref 53, I_ x2] n (W0 dy) g (fun v n' S' g' => V miX12_hang (d + 1) 23 [(0, .ref 53), (1, I_ x1), (2, I_ x2), (3, I_ x3), (4, I_ x4)] (v.toList ++ []) n' S' g' 0 0 P))) : V miX12_hang (d + 1) 15 [(0, .ref 53), (1, I_ x1), (2, I_ x2), (3, I_ x3), (4, I_ x4)] [I_ xs0] n (W0 dy) g 0 0 P := by
  have c1 := h.1
  have h := h.2
  refine v_if_eq 9 rfl (tgt := 26) rfl c1 (fun q2 => ?_) (fun q2 => ?_)
  · have h := h.1 q2
    refine v_aload_n 14 0 rfl rfl rfl ?_
    refine v_iconst 15 rfl ?_
    refine v_callV (st := []) [I_ 2] 16 rfl lv12_155_hang_11 (al 53 rfl hn) (wk53 dy) (by decide) rfl (Nat.le_refl _) (Nat.le_refl _) ?_
    exact h
  · have h := h.2 q2
    refine v_aload_n 10 0 rfl rfl rfl ?_
    refine v_iload_n 11 2 rfl rfl rfl ?_
    refine v_callV (st := []) [I_ x2] 12 rfl lv12_222_hang_11 (al 53 rfl hn) (wk53 dy) (by decide) rfl (Nat.le_refl _) (Nat.le_refl _) ?_
    exact h
set_option maxHeartbeats 8000000 in
set_option maxRecDepth 4000 in
theorem bX12_hang_23 {d n : Nat} {dy : Nat → Shp} {g : Hp} {P : Pst} {x1 : Int} {x2 : Int} {x3 : Int} {x4 : Int} {xs0 : Int} (hn : 100 ≤ n) (h : (i3 xs0) ∧ ((xs0 ≠ 0) → Runs miX12_isRod d [.ref 53, I_ x2] n (W0 dy) g (fun v n' S' g' => V miX12_hang (d + 1) 37 [(0, .ref 53), (1, I_ x1), (2, I_ x2), (3, I_ x3), (4, I_ x4)] (v.toList ++ []) n' S' g' 0 0 P)) ∧ ((xs0 = 0) → Runs miX12_no d [.ref 53, I_ 2] n (W0 dy) g (fun v n' S' g' => V miX12_hang (d + 1) 31 [(0, .ref 53), (1, I_ x1), (2, I_ x2), (3, I_ x3), (4, I_ x4)] (v.toList ++ []) n' S' g' 0 0 P))) : V miX12_hang (d + 1) 23 [(0, .ref 53), (1, I_ x1), (2, I_ x2), (3, I_ x3), (4, I_ x4)] [I_ xs0] n (W0 dy) g 0 0 P := by
  have c1 := h.1
  have h := h.2
  refine v_if_ne 13 rfl (tgt := 32) rfl c1 (fun q2 => ?_) (fun q2 => ?_)
  · have h := h.1 q2
    refine v_aload_n 18 0 rfl rfl rfl ?_
    refine v_iload_n 19 2 rfl rfl rfl ?_
    refine v_callV (st := []) [I_ x2] 20 rfl lv12_237_hang_11 (al 53 rfl hn) (wk53 dy) (by decide) rfl (Nat.le_refl _) (Nat.le_refl _) ?_
    exact h
  · have h := h.2 q2
    refine v_aload_n 14 0 rfl rfl rfl ?_
    refine v_iconst 15 rfl ?_
    refine v_callV (st := []) [I_ 2] 16 rfl lv12_155_hang_11 (al 53 rfl hn) (wk53 dy) (by decide) rfl (Nat.le_refl _) (Nat.le_refl _) ?_
    exact h
set_option maxHeartbeats 8000000 in
set_option maxRecDepth 4000 in
theorem bX12_hang_31 {d n : Nat} {dy : Nat → Shp} {g : Hp} {P : Pst} {x1 : Int} {x2 : Int} {x3 : Int} {x4 : Int} {xs0 : Int} (hn : 100 ≤ n) (h : (xs0 = 0 ∨ xs0 = 1) ∧ P (some (I_ xs0)) n (W0 dy) g) : V miX12_hang (d + 1) 31 [(0, .ref 53), (1, I_ x1), (2, I_ x2), (3, I_ x3), (4, I_ x4)] [I_ xs0] n (W0 dy) g 0 0 P := by
  have c1 := h.1
  have h := h.2
  exact v_ret (v := some (I_ xs0)) 17 rfl (Nat.zero_le _) (Nat.zero_le _) (rokZ c1) rfl h
set_option maxHeartbeats 8000000 in
set_option maxRecDepth 4000 in
theorem bX12_hang_37 {d n : Nat} {dy : Nat → Shp} {g : Hp} {P : Pst} {x1 : Int} {x2 : Int} {x3 : Int} {x4 : Int} {xs0 : Int} (hn : 100 ≤ n) (h : (i3 xs0) ∧ ((xs0 = 0) → Runs miX12_no d [.ref 53, I_ 5] n (W0 dy) g (fun v n' S' g' => V miX12_hang (d + 1) 63 [(0, .ref 53), (1, I_ x1), (2, I_ x2), (3, I_ x3), (4, I_ x4)] (v.toList ++ []) n' S' g' 0 0 P)) ∧ ((xs0 ≠ 0) → (0 ≤ x2 ∧ x2 < 60) ∧ (((g 57 x2.toNat) ≠ 3) → (i3 x3) ∧ ((x3 < 0) → Runs miX12_no d [.ref 53, I_ 7] n (W0 dy) g (fun v n' S' g' => V miX12_hang (d + 1) 102 [(0, .ref 53), (1, I_ x1), (2, I_ x2), (3, I_ x3), (4, I_ x4)] (v.toList ++ []) n' S' g' 0 0 P)) ∧ ((0 ≤ x3) → ((1 < x3) → Runs miX12_no d [.ref 53, I_ 7] n (W0 dy) g (fun v n' S' g' => V miX12_hang (d + 1) 102 [(0, .ref 53), (1, I_ x1), (2, I_ x2), (3, I_ x3), (4, I_ x4)] (v.toList ++ []) n' S' g' 0 0 P)) ∧ ((x3 ≤ 1) → (i3 x4) ∧ ((x4 < 1) → Runs miX12_no d [.ref 53, I_ 7] n (W0 dy) g (fun v n' S' g' => V miX12_hang (d + 1) 102 [(0, .ref 53), (1, I_ x1), (2, I_ x2), (3, I_ x3), (4, I_ x4)] (v.toList ++ []) n' S' g' 0 0 P)) ∧ ((1 ≤ x4) → ((1000 < x4) → Runs miX12_no d [.ref 53, I_ 7] n (W0 dy) g (fun v n' S' g' => V miX12_hang (d + 1) 102 [(0, .ref 53), (1, I_ x1), (2, I_ x2), (3, I_ x3), (4, I_ x4)] (v.toList ++ []) n' S' g' 0 0 P)) ∧ ((x4 ≤ 1000) → Runs miX12_isAbove d [.ref 53, I_ x1, I_ x2] n (W0 dy) g (fun v n' S' g' => V miX12_hang (d + 1) 93 [(0, .ref 53), (1, I_ x1), (2, I_ x2), (3, I_ x3), (4, I_ x4)] (v.toList ++ []) n' S' g' 0 0 P)))))) ∧ (((g 57 x2.toNat) = 3) → Runs miX12_isRod d [.ref 53, I_ x1] n (W0 dy) g (fun v n' S' g' => V miX12_hang (d + 1) 55 [(0, .ref 53), (1, I_ x1), (2, I_ x2), (3, I_ x3), (4, I_ x4)] (v.toList ++ []) n' S' g' 0 0 P)))) : V miX12_hang (d + 1) 37 [(0, .ref 53), (1, I_ x1), (2, I_ x2), (3, I_ x3), (4, I_ x4)] [I_ xs0] n (W0 dy) g 0 0 P := by
  have c1 := h.1
  have h := h.2
  refine v_if_eq 21 rfl (tgt := 58) rfl c1 (fun q2 => ?_) (fun q2 => ?_)
  · have h := h.1 q2
    refine v_aload_n 32 0 rfl rfl rfl ?_
    refine v_iconst 33 rfl ?_
    refine v_callV (st := []) [I_ 5] 34 rfl lv12_155_hang_11 (al 53 rfl hn) (wk53 dy) (by decide) rfl (Nat.le_refl _) (Nat.le_refl _) ?_
    exact h
  · have h := h.2 q2
    refine v_aload_n 22 0 rfl rfl rfl ?_
    refine v_gK 23 rfl fl12_20_11.r (al 53 rfl hn) (wk53 dy) (by decide) rfl (r := 57) (wc53_6 dy) ?_
    refine v_iload_n 24 2 rfl rfl rfl ?_
    have c3 := h.1
    have h := h.2
    refine v_ia (N := 60) 25 rfl (al 57 rfl hn) (wk57 dy) (wn57 dy) (by decide) c3 (y := g 57 x2.toNat) rfl ?_
    refine v_rng fun w4 => ?_
    have p5 : i3 (g 57 x2.toNat) := rI w4 (q := x2.toNat) (al 57 rfl hn) (wk57 dy) rfl rfl
    refine v_iconst 26 rfl ?_
    refine v_icmp_ne 27 rfl (tgt := 64) rfl p5 (by decide) (fun q6 => ?_) (fun q6 => ?_)
    · have h := h.1 q6
      refine v_iload_n 36 3 rfl rfl rfl ?_
      have c7 := h.1
      have h := h.2
      refine v_if_lt 37 rfl (tgt := 96) rfl c7 (fun q8 => ?_) (fun q8 => ?_)
      · have h := h.1 q8
        refine v_aload_n 52 0 rfl rfl rfl ?_
        refine v_bipush 53 rfl (by decide) ?_
        refine v_callV (st := []) [I_ 7] 54 rfl lv12_155_hang_11 (al 53 rfl hn) (wk53 dy) (by decide) rfl (Nat.le_refl _) (Nat.le_refl _) ?_
        exact h
      · have h := h.2 q8
        refine v_iload_n 38 3 rfl rfl rfl ?_
        refine v_iconst 39 rfl ?_
        refine v_icmp_gt 40 rfl (tgt := 96) rfl c7 (by decide) (fun q9 => ?_) (fun q9 => ?_)
        · have h := h.1 q9
          refine v_aload_n 52 0 rfl rfl rfl ?_
          refine v_bipush 53 rfl (by decide) ?_
          refine v_callV (st := []) [I_ 7] 54 rfl lv12_155_hang_11 (al 53 rfl hn) (wk53 dy) (by decide) rfl (Nat.le_refl _) (Nat.le_refl _) ?_
          exact h
        · have h := h.2 q9
          refine v_iload 41 4 rfl rfl ?_
          refine v_iconst 42 rfl ?_
          have c10 := h.1
          have h := h.2
          refine v_icmp_lt 43 rfl (tgt := 96) rfl c10 (by decide) (fun q11 => ?_) (fun q11 => ?_)
          · have h := h.1 q11
            refine v_aload_n 52 0 rfl rfl rfl ?_
            refine v_bipush 53 rfl (by decide) ?_
            refine v_callV (st := []) [I_ 7] 54 rfl lv12_155_hang_11 (al 53 rfl hn) (wk53 dy) (by decide) rfl (Nat.le_refl _) (Nat.le_refl _) ?_
            exact h
          · have h := h.2 q11
            refine v_iload 44 4 rfl rfl ?_
            refine v_sipush 45 rfl (by decide) ?_
            refine v_icmp_gt 46 rfl (tgt := 96) rfl c10 (by decide) (fun q12 => ?_) (fun q12 => ?_)
            · have h := h.1 q12
              refine v_aload_n 52 0 rfl rfl rfl ?_
              refine v_bipush 53 rfl (by decide) ?_
              refine v_callV (st := []) [I_ 7] 54 rfl lv12_155_hang_11 (al 53 rfl hn) (wk53 dy) (by decide) rfl (Nat.le_refl _) (Nat.le_refl _) ?_
              exact h
            · have h := h.2 q12
              refine v_aload_n 47 0 rfl rfl rfl ?_
              refine v_iload_n 48 1 rfl rfl rfl ?_
              refine v_iload_n 49 2 rfl rfl rfl ?_
              refine v_callV (st := []) [I_ x1, I_ x2] 50 rfl lv12_243_hang_11 (al 53 rfl hn) (wk53 dy) (by decide) rfl (Nat.le_refl _) (Nat.le_refl _) ?_
              exact h
    · have h := h.2 q6
      refine v_aload_n 28 0 rfl rfl rfl ?_
      refine v_iload_n 29 1 rfl rfl rfl ?_
      refine v_callV (st := []) [I_ x1] 30 rfl lv12_237_hang_11 (al 53 rfl hn) (wk53 dy) (by decide) rfl (Nat.le_refl _) (Nat.le_refl _) ?_
      exact h
set_option maxHeartbeats 8000000 in
set_option maxRecDepth 4000 in
theorem bX12_hang_55 {d n : Nat} {dy : Nat → Shp} {g : Hp} {P : Pst} {x1 : Int} {x2 : Int} {x3 : Int} {x4 : Int} {xs0 : Int} (hn : 100 ≤ n) (h : (i3 xs0) ∧ ((xs0 = 0) → (i3 x3) ∧ ((x3 < 0) → Runs miX12_no d [.ref 53, I_ 7] n (W0 dy) g (fun v n' S' g' => V miX12_hang (d + 1) 102 [(0, .ref 53), (1, I_ x1), (2, I_ x2), (3, I_ x3), (4, I_ x4)] (v.toList ++ []) n' S' g' 0 0 P)) ∧ ((0 ≤ x3) → ((1 < x3) → Runs miX12_no d [.ref 53, I_ 7] n (W0 dy) g (fun v n' S' g' => V miX12_hang (d + 1) 102 [(0, .ref 53), (1, I_ x1), (2, I_ x2), (3, I_ x3), (4, I_ x4)] (v.toList ++ []) n' S' g' 0 0 P)) ∧ ((x3 ≤ 1) → (i3 x4) ∧ ((x4 < 1) → Runs miX12_no d [.ref 53, I_ 7] n (W0 dy) g (fun v n' S' g' => V miX12_hang (d + 1) 102 [(0, .ref 53), (1, I_ x1), (2, I_ x2), (3, I_ x3), (4, I_ x4)] (v.toList ++ []) n' S' g' 0 0 P)) ∧ ((1 ≤ x4) → ((1000 < x4) → Runs miX12_no d [.ref 53, I_ 7] n (W0 dy) g (fun v n' S' g' => V miX12_hang (d + 1) 102 [(0, .ref 53), (1, I_ x1), (2, I_ x2), (3, I_ x3), (4, I_ x4)] (v.toList ++ []) n' S' g' 0 0 P)) ∧ ((x4 ≤ 1000) → Runs miX12_isAbove d [.ref 53, I_ x1, I_ x2] n (W0 dy) g (fun v n' S' g' => V miX12_hang (d + 1) 93 [(0, .ref 53), (1, I_ x1), (2, I_ x2), (3, I_ x3), (4, I_ x4)] (v.toList ++ []) n' S' g' 0 0 P)))))) ∧ ((xs0 ≠ 0) → Runs miX12_no d [.ref 53, I_ 5] n (W0 dy) g (fun v n' S' g' => V miX12_hang (d + 1) 63 [(0, .ref 53), (1, I_ x1), (2, I_ x2), (3, I_ x3), (4, I_ x4)] (v.toList ++ []) n' S' g' 0 0 P))) : V miX12_hang (d + 1) 55 [(0, .ref 53), (1, I_ x1), (2, I_ x2), (3, I_ x3), (4, I_ x4)] [I_ xs0] n (W0 dy) g 0 0 P := by
  have c1 := h.1
  have h := h.2
  refine v_if_eq 31 rfl (tgt := 64) rfl c1 (fun q2 => ?_) (fun q2 => ?_)
  · have h := h.1 q2
    refine v_iload_n 36 3 rfl rfl rfl ?_
    have c3 := h.1
    have h := h.2
    refine v_if_lt 37 rfl (tgt := 96) rfl c3 (fun q4 => ?_) (fun q4 => ?_)
    · have h := h.1 q4
      refine v_aload_n 52 0 rfl rfl rfl ?_
      refine v_bipush 53 rfl (by decide) ?_
      refine v_callV (st := []) [I_ 7] 54 rfl lv12_155_hang_11 (al 53 rfl hn) (wk53 dy) (by decide) rfl (Nat.le_refl _) (Nat.le_refl _) ?_
      exact h
    · have h := h.2 q4
      refine v_iload_n 38 3 rfl rfl rfl ?_
      refine v_iconst 39 rfl ?_
      refine v_icmp_gt 40 rfl (tgt := 96) rfl c3 (by decide) (fun q5 => ?_) (fun q5 => ?_)
      · have h := h.1 q5
        refine v_aload_n 52 0 rfl rfl rfl ?_
        refine v_bipush 53 rfl (by decide) ?_
        refine v_callV (st := []) [I_ 7] 54 rfl lv12_155_hang_11 (al 53 rfl hn) (wk53 dy) (by decide) rfl (Nat.le_refl _) (Nat.le_refl _) ?_
        exact h
      · have h := h.2 q5
        refine v_iload 41 4 rfl rfl ?_
        refine v_iconst 42 rfl ?_
        have c6 := h.1
        have h := h.2
        refine v_icmp_lt 43 rfl (tgt := 96) rfl c6 (by decide) (fun q7 => ?_) (fun q7 => ?_)
        · have h := h.1 q7
          refine v_aload_n 52 0 rfl rfl rfl ?_
          refine v_bipush 53 rfl (by decide) ?_
          refine v_callV (st := []) [I_ 7] 54 rfl lv12_155_hang_11 (al 53 rfl hn) (wk53 dy) (by decide) rfl (Nat.le_refl _) (Nat.le_refl _) ?_
          exact h
        · have h := h.2 q7
          refine v_iload 44 4 rfl rfl ?_
          refine v_sipush 45 rfl (by decide) ?_
          refine v_icmp_gt 46 rfl (tgt := 96) rfl c6 (by decide) (fun q8 => ?_) (fun q8 => ?_)
          · have h := h.1 q8
            refine v_aload_n 52 0 rfl rfl rfl ?_
            refine v_bipush 53 rfl (by decide) ?_
            refine v_callV (st := []) [I_ 7] 54 rfl lv12_155_hang_11 (al 53 rfl hn) (wk53 dy) (by decide) rfl (Nat.le_refl _) (Nat.le_refl _) ?_
            exact h
          · have h := h.2 q8
            refine v_aload_n 47 0 rfl rfl rfl ?_
            refine v_iload_n 48 1 rfl rfl rfl ?_
            refine v_iload_n 49 2 rfl rfl rfl ?_
            refine v_callV (st := []) [I_ x1, I_ x2] 50 rfl lv12_243_hang_11 (al 53 rfl hn) (wk53 dy) (by decide) rfl (Nat.le_refl _) (Nat.le_refl _) ?_
            exact h
  · have h := h.2 q2
    refine v_aload_n 32 0 rfl rfl rfl ?_
    refine v_iconst 33 rfl ?_
    refine v_callV (st := []) [I_ 5] 34 rfl lv12_155_hang_11 (al 53 rfl hn) (wk53 dy) (by decide) rfl (Nat.le_refl _) (Nat.le_refl _) ?_
    exact h
set_option maxHeartbeats 8000000 in
set_option maxRecDepth 4000 in
theorem bX12_hang_63 {d n : Nat} {dy : Nat → Shp} {g : Hp} {P : Pst} {x1 : Int} {x2 : Int} {x3 : Int} {x4 : Int} {xs0 : Int} (hn : 100 ≤ n) (h : (xs0 = 0 ∨ xs0 = 1) ∧ P (some (I_ xs0)) n (W0 dy) g) : V miX12_hang (d + 1) 63 [(0, .ref 53), (1, I_ x1), (2, I_ x2), (3, I_ x3), (4, I_ x4)] [I_ xs0] n (W0 dy) g 0 0 P := by
  have c1 := h.1
  have h := h.2
  exact v_ret (v := some (I_ xs0)) 35 rfl (Nat.zero_le _) (Nat.zero_le _) (rokZ c1) rfl h
set_option maxHeartbeats 8000000 in
set_option maxRecDepth 4000 in
theorem bX12_hang_93 {d n : Nat} {dy : Nat → Shp} {g : Hp} {P : Pst} {x1 : Int} {x2 : Int} {x3 : Int} {x4 : Int} {xs0 : Int} (hn : 100 ≤ n) (h : (i3 xs0) ∧ ((xs0 = 0) → (0 ≤ x1 ∧ x1 < 60) ∧ ((0 ≤ (g 60 x1.toNat)) → Runs miX12_no d [.ref 53, I_ 8] n (W0 dy) g (fun v n' S' g' => V miX12_hang (d + 1) 140 [(0, .ref 53), (1, I_ x1), (2, I_ x2), (3, I_ x3), (4, I_ x4)] (v.toList ++ []) n' S' g' 0 0 P)) ∧ (((g 60 x1.toNat) < 0) → (i3 x3) ∧ ((x3 ≠ 0) → (0 ≤ x2 ∧ x2 < 60) ∧ (((g 67 x2.toNat) < 0) → (i3 x4) ∧ ((x3 ≠ 0) → P (some (I_ 1)) n (W0 dy) (up2 (up2 (up2 (up2 g 60 x1.toNat x2) 61 x1.toNat x3) 62 x1.toNat x4) 67 x2.toNat x1)) ∧ ((x3 = 0) → P (some (I_ 1)) n (W0 dy) (up2 (up2 (up2 (up2 g 60 x1.toNat x2) 61 x1.toNat x3) 62 x1.toNat x4) 66 x2.toNat x1))) ∧ ((0 ≤ (g 67 x2.toNat)) → Runs miX12_no d [.ref 53, I_ 8] n (W0 dy) g (fun v n' S' g' => V miX12_hang (d + 1) 140 [(0, .ref 53), (1, I_ x1), (2, I_ x2), (3, I_ x3), (4, I_ x4)] (v.toList ++ []) n' S' g' 0 0 P))) ∧ ((x3 = 0) → (0 ≤ x2 ∧ x2 < 60) ∧ (((g 66 x2.toNat) < 0) → (i3 x4) ∧ ((x3 ≠ 0) → P (some (I_ 1)) n (W0 dy) (up2 (up2 (up2 (up2 g 60 x1.toNat x2) 61 x1.toNat x3) 62 x1.toNat x4) 67 x2.toNat x1)) ∧ ((x3 = 0) → P (some (I_ 1)) n (W0 dy) (up2 (up2 (up2 (up2 g 60 x1.toNat x2) 61 x1.toNat x3) 62 x1.toNat x4) 66 x2.toNat x1))) ∧ ((0 ≤ (g 66 x2.toNat)) → Runs miX12_no d [.ref 53, I_ 8] n (W0 dy) g (fun v n' S' g' => V miX12_hang (d + 1) 140 [(0, .ref 53), (1, I_ x1), (2, I_ x2), (3, I_ x3), (4, I_ x4)] (v.toList ++ []) n' S' g' 0 0 P))))) ∧ ((xs0 ≠ 0) → Runs miX12_no d [.ref 53, I_ 7] n (W0 dy) g (fun v n' S' g' => V miX12_hang (d + 1) 102 [(0, .ref 53), (1, I_ x1), (2, I_ x2), (3, I_ x3), (4, I_ x4)] (v.toList ++ []) n' S' g' 0 0 P))) : V miX12_hang (d + 1) 93 [(0, .ref 53), (1, I_ x1), (2, I_ x2), (3, I_ x3), (4, I_ x4)] [I_ xs0] n (W0 dy) g 0 0 P := by
  have c1 := h.1
  have h := h.2
  refine v_if_eq 51 rfl (tgt := 103) rfl c1 (fun q2 => ?_) (fun q2 => ?_)
  · have h := h.1 q2
    refine v_aload_n 56 0 rfl rfl rfl ?_
    refine v_gK 57 rfl fl12_29_11.r (al 53 rfl hn) (wk53 dy) (by decide) rfl (r := 60) (wc53_9 dy) ?_
    refine v_iload_n 58 1 rfl rfl rfl ?_
    have c3 := h.1
    have h := h.2
    refine v_ia (N := 60) 59 rfl (al 60 rfl hn) (wk60 dy) (wn60 dy) (by decide) c3 (y := g 60 x1.toNat) rfl ?_
    refine v_rng fun w4 => ?_
    have p5 : i3 (g 60 x1.toNat) := rI w4 (q := x1.toNat) (al 60 rfl hn) (wk60 dy) rfl rfl
    refine v_if_ge 60 rfl (tgt := 134) rfl p5 (fun q6 => ?_) (fun q6 => ?_)
    · have h := h.1 q6
      refine v_aload_n 73 0 rfl rfl rfl ?_
      refine v_bipush 74 rfl (by decide) ?_
      refine v_callV (st := []) [I_ 8] 75 rfl lv12_155_hang_11 (al 53 rfl hn) (wk53 dy) (by decide) rfl (Nat.le_refl _) (Nat.le_refl _) ?_
      exact h
    · have h := h.2 q6
      refine v_iload_n 61 3 rfl rfl rfl ?_
      have c7 := h.1
      have h := h.2
      refine v_if_ne 62 rfl (tgt := 125) rfl c7 (fun q8 => ?_) (fun q8 => ?_)
      · have h := h.1 q8
        refine v_aload_n 68 0 rfl rfl rfl ?_
        refine v_gK 69 rfl fl12_50_11.r (al 53 rfl hn) (wk53 dy) (by decide) rfl (r := 67) (wc53_16 dy) ?_
        refine v_iload_n 70 2 rfl rfl rfl ?_
        have c9 := h.1
        have h := h.2
        refine v_ia (N := 60) 71 rfl (al 67 rfl hn) (wk67 dy) (wn67 dy) (by decide) c9 (y := g 67 x2.toNat) rfl ?_
        refine v_rng fun w10 => ?_
        have p11 : i3 (g 67 x2.toNat) := rI w10 (q := x2.toNat) (al 67 rfl hn) (wk67 dy) rfl rfl
        refine v_if_lt 72 rfl (tgt := 141) rfl p11 (fun q12 => ?_) (fun q12 => ?_)
        · have h := h.1 q12
          refine v_aload_n 77 0 rfl rfl rfl ?_
          refine v_gK 78 rfl fl12_29_11.r (al 53 rfl hn) (wk53 dy) (by decide) rfl (r := 60) (wc53_9 dy) ?_
          refine v_iload_n 79 1 rfl rfl rfl ?_
          refine v_iload_n 80 2 rfl rfl rfl ?_
          refine v_iast (N := 60) 81 rfl (al 60 rfl hn) (wk60 dy) (wn60 dy) (by decide) c3 (ix3 c9 (by decide)) ?_
          refine v_aload_n 82 0 rfl rfl rfl ?_
          refine v_gK 83 rfl fl12_32_11.r (al 53 rfl hn) (wk53 dy) (by decide) rfl (r := 61) (wc53_10 dy) ?_
          refine v_iload_n 84 1 rfl rfl rfl ?_
          refine v_iload_n 85 3 rfl rfl rfl ?_
          refine v_iast (N := 60) 86 rfl (al 61 rfl hn) (wk61 dy) (wn61 dy) (by decide) c3 c7 ?_
          refine v_aload_n 87 0 rfl rfl rfl ?_
          refine v_gK 88 rfl fl12_35_11.r (al 53 rfl hn) (wk53 dy) (by decide) rfl (r := 62) (wc53_11 dy) ?_
          refine v_iload_n 89 1 rfl rfl rfl ?_
          refine v_iload 90 4 rfl rfl ?_
          have c13 := h.1
          have h := h.2
          refine v_iast (N := 60) 91 rfl (al 62 rfl hn) (wk62 dy) (wn62 dy) (by decide) c3 c13 ?_
          refine v_iload_n 92 3 rfl rfl rfl ?_
          refine v_if_ne 93 rfl (tgt := 177) rfl c7 (fun q14 => ?_) (fun q14 => ?_)
          · have h := h.1 q14
            refine v_aload_n 100 0 rfl rfl rfl ?_
            refine v_gK 101 rfl fl12_50_11.r (al 53 rfl hn) (wk53 dy) (by decide) rfl (r := 67) (wc53_16 dy) ?_
            refine v_iload_n 102 2 rfl rfl rfl ?_
            refine v_iload_n 103 1 rfl rfl rfl ?_
            refine v_iast (N := 60) 104 rfl (al 67 rfl hn) (wk67 dy) (wn67 dy) (by decide) c9 (ix3 c3 (by decide)) ?_
            refine v_iconst 105 rfl ?_
            exact v_ret (v := some (I_ 1)) 106 rfl (Nat.zero_le _) (Nat.zero_le _) (Or.inr rfl) rfl h
          · have h := h.2 q14
            refine v_aload_n 94 0 rfl rfl rfl ?_
            refine v_gK 95 rfl fl12_47_11.r (al 53 rfl hn) (wk53 dy) (by decide) rfl (r := 66) (wc53_15 dy) ?_
            refine v_iload_n 96 2 rfl rfl rfl ?_
            refine v_iload_n 97 1 rfl rfl rfl ?_
            refine v_iast (N := 60) 98 rfl (al 66 rfl hn) (wk66 dy) (wn66 dy) (by decide) c9 (ix3 c3 (by decide)) ?_
            refine v_goto 99 rfl (tgt := 184) rfl ?_
            refine v_iconst 105 rfl ?_
            exact v_ret (v := some (I_ 1)) 106 rfl (Nat.zero_le _) (Nat.zero_le _) (Or.inr rfl) rfl h
        · have h := h.2 q12
          refine v_aload_n 73 0 rfl rfl rfl ?_
          refine v_bipush 74 rfl (by decide) ?_
          refine v_callV (st := []) [I_ 8] 75 rfl lv12_155_hang_11 (al 53 rfl hn) (wk53 dy) (by decide) rfl (Nat.le_refl _) (Nat.le_refl _) ?_
          exact h
      · have h := h.2 q8
        refine v_aload_n 63 0 rfl rfl rfl ?_
        refine v_gK 64 rfl fl12_47_11.r (al 53 rfl hn) (wk53 dy) (by decide) rfl (r := 66) (wc53_15 dy) ?_
        refine v_iload_n 65 2 rfl rfl rfl ?_
        have c15 := h.1
        have h := h.2
        refine v_ia (N := 60) 66 rfl (al 66 rfl hn) (wk66 dy) (wn66 dy) (by decide) c15 (y := g 66 x2.toNat) rfl ?_
        refine v_rng fun w16 => ?_
        have p17 : i3 (g 66 x2.toNat) := rI w16 (q := x2.toNat) (al 66 rfl hn) (wk66 dy) rfl rfl
        refine v_goto 67 rfl (tgt := 131) rfl ?_
        refine v_if_lt 72 rfl (tgt := 141) rfl p17 (fun q18 => ?_) (fun q18 => ?_)
        · have h := h.1 q18
          refine v_aload_n 77 0 rfl rfl rfl ?_
          refine v_gK 78 rfl fl12_29_11.r (al 53 rfl hn) (wk53 dy) (by decide) rfl (r := 60) (wc53_9 dy) ?_
          refine v_iload_n 79 1 rfl rfl rfl ?_
          refine v_iload_n 80 2 rfl rfl rfl ?_
          refine v_iast (N := 60) 81 rfl (al 60 rfl hn) (wk60 dy) (wn60 dy) (by decide) c3 (ix3 c15 (by decide)) ?_
          refine v_aload_n 82 0 rfl rfl rfl ?_
          refine v_gK 83 rfl fl12_32_11.r (al 53 rfl hn) (wk53 dy) (by decide) rfl (r := 61) (wc53_10 dy) ?_
          refine v_iload_n 84 1 rfl rfl rfl ?_
          refine v_iload_n 85 3 rfl rfl rfl ?_
          refine v_iast (N := 60) 86 rfl (al 61 rfl hn) (wk61 dy) (wn61 dy) (by decide) c3 c7 ?_
          refine v_aload_n 87 0 rfl rfl rfl ?_
          refine v_gK 88 rfl fl12_35_11.r (al 53 rfl hn) (wk53 dy) (by decide) rfl (r := 62) (wc53_11 dy) ?_
          refine v_iload_n 89 1 rfl rfl rfl ?_
          refine v_iload 90 4 rfl rfl ?_
          have c19 := h.1
          have h := h.2
          refine v_iast (N := 60) 91 rfl (al 62 rfl hn) (wk62 dy) (wn62 dy) (by decide) c3 c19 ?_
          refine v_iload_n 92 3 rfl rfl rfl ?_
          refine v_if_ne 93 rfl (tgt := 177) rfl c7 (fun q20 => ?_) (fun q20 => ?_)
          · have h := h.1 q20
            refine v_aload_n 100 0 rfl rfl rfl ?_
            refine v_gK 101 rfl fl12_50_11.r (al 53 rfl hn) (wk53 dy) (by decide) rfl (r := 67) (wc53_16 dy) ?_
            refine v_iload_n 102 2 rfl rfl rfl ?_
            refine v_iload_n 103 1 rfl rfl rfl ?_
            refine v_iast (N := 60) 104 rfl (al 67 rfl hn) (wk67 dy) (wn67 dy) (by decide) c15 (ix3 c3 (by decide)) ?_
            refine v_iconst 105 rfl ?_
            exact v_ret (v := some (I_ 1)) 106 rfl (Nat.zero_le _) (Nat.zero_le _) (Or.inr rfl) rfl h
          · have h := h.2 q20
            refine v_aload_n 94 0 rfl rfl rfl ?_
            refine v_gK 95 rfl fl12_47_11.r (al 53 rfl hn) (wk53 dy) (by decide) rfl (r := 66) (wc53_15 dy) ?_
            refine v_iload_n 96 2 rfl rfl rfl ?_
            refine v_iload_n 97 1 rfl rfl rfl ?_
            refine v_iast (N := 60) 98 rfl (al 66 rfl hn) (wk66 dy) (wn66 dy) (by decide) c15 (ix3 c3 (by decide)) ?_
            refine v_goto 99 rfl (tgt := 184) rfl ?_
            refine v_iconst 105 rfl ?_
            exact v_ret (v := some (I_ 1)) 106 rfl (Nat.zero_le _) (Nat.zero_le _) (Or.inr rfl) rfl h
        · have h := h.2 q18
          refine v_aload_n 73 0 rfl rfl rfl ?_
          refine v_bipush 74 rfl (by decide) ?_
          refine v_callV (st := []) [I_ 8] 75 rfl lv12_155_hang_11 (al 53 rfl hn) (wk53 dy) (by decide) rfl (Nat.le_refl _) (Nat.le_refl _) ?_
          exact h
  · have h := h.2 q2
    refine v_aload_n 52 0 rfl rfl rfl ?_
    refine v_bipush 53 rfl (by decide) ?_
    refine v_callV (st := []) [I_ 7] 54 rfl lv12_155_hang_11 (al 53 rfl hn) (wk53 dy) (by decide) rfl (Nat.le_refl _) (Nat.le_refl _) ?_
    exact h
set_option maxHeartbeats 8000000 in
set_option maxRecDepth 4000 in
theorem bX12_hang_102 {d n : Nat} {dy : Nat → Shp} {g : Hp} {P : Pst} {x1 : Int} {x2 : Int} {x3 : Int} {x4 : Int} {xs0 : Int} (hn : 100 ≤ n) (h : (xs0 = 0 ∨ xs0 = 1) ∧ P (some (I_ xs0)) n (W0 dy) g) : V miX12_hang (d + 1) 102 [(0, .ref 53), (1, I_ x1), (2, I_ x2), (3, I_ x3), (4, I_ x4)] [I_ xs0] n (W0 dy) g 0 0 P := by
  have c1 := h.1
  have h := h.2
  exact v_ret (v := some (I_ xs0)) 55 rfl (Nat.zero_le _) (Nat.zero_le _) (rokZ c1) rfl h
set_option maxHeartbeats 8000000 in
set_option maxRecDepth 4000 in
theorem bX12_hang_140 {d n : Nat} {dy : Nat → Shp} {g : Hp} {P : Pst} {x1 : Int} {x2 : Int} {x3 : Int} {x4 : Int} {xs0 : Int} (hn : 100 ≤ n) (h : (xs0 = 0 ∨ xs0 = 1) ∧ P (some (I_ xs0)) n (W0 dy) g) : V miX12_hang (d + 1) 140 [(0, .ref 53), (1, I_ x1), (2, I_ x2), (3, I_ x3), (4, I_ x4)] [I_ xs0] n (W0 dy) g 0 0 P := by
  have c1 := h.1
  have h := h.2
  exact v_ret (v := some (I_ xs0)) 76 rfl (Nat.zero_le _) (Nat.zero_le _) (rokZ c1) rfl h
theorem wX12_hang {d n : Nat} {dy : Nat → Shp} {g : Hp} {P : Pst} {x1 : Int} {x2 : Int} {x3 : Int} {x4 : Int} (hn : 100 ≤ n) (h : Runs miX12_isPart d [.ref 53, I_ x1] n (W0 dy) (up2 (up2 g 53 1 0) 53 0 0) (fun v n' S' g' => V miX12_hang (d + 1) 15 [(0, .ref 53), (1, I_ x1), (2, I_ x2), (3, I_ x3), (4, I_ x4)] (v.toList ++ []) n' S' g' 0 0 P)) : Runs miX12_hang (d + 1) [.ref 53, I_ x1, I_ x2, I_ x3, I_ x4] n (W0 dy) g P := Runs.of rfl rfl deX12_hang (Nat.le_of_ble_eq_true rfl) (bX12_hang_0 hn h)
set_option maxHeartbeats 8000000 in
set_option maxRecDepth 4000 in
theorem bX12_takeOff_0 {d n : Nat} {dy : Nat → Shp} {g : Hp} {P : Pst} {x1 : Int} (hn : 100 ≤ n) (h : (0 ≤ x1 ∧ x1 < 60) ∧ (((g 61 x1.toNat) ≠ 0) → (0 ≤ g 60 x1.toNat ∧ g 60 x1.toNat < 60) ∧ P none n (W0 dy) (up2 (up2 (up2 (up2 g 67 ((g 60 x1.toNat).toNat) ((-1))) 60 x1.toNat ((-1))) 61 x1.toNat ((-1))) 62 x1.toNat 0)) ∧ (((g 61 x1.toNat) = 0) → (0 ≤ g 60 x1.toNat ∧ g 60 x1.toNat < 60) ∧ P none n (W0 dy) (up2 (up2 (up2 (up2 g 66 ((g 60 x1.toNat).toNat) ((-1))) 60 x1.toNat ((-1))) 61 x1.toNat ((-1))) 62 x1.toNat 0))) : V miX12_takeOff d 0 [(0, .ref 53), (1, I_ x1)] [] n (W0 dy) g 0 0 P := by
  refine v_aload_n 0 0 rfl rfl rfl ?_
  refine v_gK 1 rfl fl12_32_11.r (al 53 rfl hn) (wk53 dy) (by decide) rfl (r := 61) (wc53_10 dy) ?_
  refine v_iload_n 2 1 rfl rfl rfl ?_
  have c1 := h.1
  have h := h.2
  refine v_ia (N := 60) 3 rfl (al 61 rfl hn) (wk61 dy) (wn61 dy) (by decide) c1 (y := g 61 x1.toNat) rfl ?_
  refine v_rng fun w2 => ?_
  have p3 : i3 (g 61 x1.toNat) := rI w2 (q := x1.toNat) (al 61 rfl hn) (wk61 dy) rfl rfl
  refine v_if_ne 4 rfl (tgt := 24) rfl p3 (fun q4 => ?_) (fun q4 => ?_)
  · have h := h.1 q4
    refine v_aload_n 14 0 rfl rfl rfl ?_
    refine v_gK 15 rfl fl12_50_11.r (al 53 rfl hn) (wk53 dy) (by decide) rfl (r := 67) (wc53_16 dy) ?_
    refine v_aload_n 16 0 rfl rfl rfl ?_
    refine v_gK 17 rfl fl12_29_11.r (al 53 rfl hn) (wk53 dy) (by decide) rfl (r := 60) (wc53_9 dy) ?_
    refine v_iload_n 18 1 rfl rfl rfl ?_
    refine v_ia (N := 60) 19 rfl (al 60 rfl hn) (wk60 dy) (wn60 dy) (by decide) c1 (y := g 60 x1.toNat) rfl ?_
    refine v_rng fun w5 => ?_
    have p6 : i3 (g 60 x1.toNat) := rI w5 (q := x1.toNat) (al 60 rfl hn) (wk60 dy) rfl rfl
    refine v_iconst 20 rfl ?_
    have c7 := h.1
    have h := h.2
    refine v_iast (N := 60) 21 rfl (al 67 rfl hn) (wk67 dy) (wn67 dy) (by decide) c7 (by decide) ?_
    refine v_aload_n 22 0 rfl rfl rfl ?_
    refine v_gK 23 rfl fl12_29_11.r (al 53 rfl hn) (wk53 dy) (by decide) rfl (r := 60) (wc53_9 dy) ?_
    refine v_iload_n 24 1 rfl rfl rfl ?_
    refine v_iconst 25 rfl ?_
    refine v_iast (N := 60) 26 rfl (al 60 rfl hn) (wk60 dy) (wn60 dy) (by decide) c1 (by decide) ?_
    refine v_aload_n 27 0 rfl rfl rfl ?_
    refine v_gK 28 rfl fl12_32_11.r (al 53 rfl hn) (wk53 dy) (by decide) rfl (r := 61) (wc53_10 dy) ?_
    refine v_iload_n 29 1 rfl rfl rfl ?_
    refine v_iconst 30 rfl ?_
    refine v_iast (N := 60) 31 rfl (al 61 rfl hn) (wk61 dy) (wn61 dy) (by decide) c1 (by decide) ?_
    refine v_aload_n 32 0 rfl rfl rfl ?_
    refine v_gK 33 rfl fl12_35_11.r (al 53 rfl hn) (wk53 dy) (by decide) rfl (r := 62) (wc53_11 dy) ?_
    refine v_iload_n 34 1 rfl rfl rfl ?_
    refine v_iconst 35 rfl ?_
    refine v_iast (N := 60) 36 rfl (al 62 rfl hn) (wk62 dy) (wn62 dy) (by decide) c1 (by decide) ?_
    exact v_ret (v := none) 37 rfl (Nat.zero_le _) (Nat.zero_le _) trivial rfl h
  · have h := h.2 q4
    refine v_aload_n 5 0 rfl rfl rfl ?_
    refine v_gK 6 rfl fl12_47_11.r (al 53 rfl hn) (wk53 dy) (by decide) rfl (r := 66) (wc53_15 dy) ?_
    refine v_aload_n 7 0 rfl rfl rfl ?_
    refine v_gK 8 rfl fl12_29_11.r (al 53 rfl hn) (wk53 dy) (by decide) rfl (r := 60) (wc53_9 dy) ?_
    refine v_iload_n 9 1 rfl rfl rfl ?_
    refine v_ia (N := 60) 10 rfl (al 60 rfl hn) (wk60 dy) (wn60 dy) (by decide) c1 (y := g 60 x1.toNat) rfl ?_
    refine v_rng fun w8 => ?_
    have p9 : i3 (g 60 x1.toNat) := rI w8 (q := x1.toNat) (al 60 rfl hn) (wk60 dy) rfl rfl
    refine v_iconst 11 rfl ?_
    have c10 := h.1
    have h := h.2
    refine v_iast (N := 60) 12 rfl (al 66 rfl hn) (wk66 dy) (wn66 dy) (by decide) c10 (by decide) ?_
    refine v_goto 13 rfl (tgt := 36) rfl ?_
    refine v_aload_n 22 0 rfl rfl rfl ?_
    refine v_gK 23 rfl fl12_29_11.r (al 53 rfl hn) (wk53 dy) (by decide) rfl (r := 60) (wc53_9 dy) ?_
    refine v_iload_n 24 1 rfl rfl rfl ?_
    refine v_iconst 25 rfl ?_
    refine v_iast (N := 60) 26 rfl (al 60 rfl hn) (wk60 dy) (wn60 dy) (by decide) c1 (by decide) ?_
    refine v_aload_n 27 0 rfl rfl rfl ?_
    refine v_gK 28 rfl fl12_32_11.r (al 53 rfl hn) (wk53 dy) (by decide) rfl (r := 61) (wc53_10 dy) ?_
    refine v_iload_n 29 1 rfl rfl rfl ?_
    refine v_iconst 30 rfl ?_
    refine v_iast (N := 60) 31 rfl (al 61 rfl hn) (wk61 dy) (wn61 dy) (by decide) c1 (by decide) ?_
    refine v_aload_n 32 0 rfl rfl rfl ?_
    refine v_gK 33 rfl fl12_35_11.r (al 53 rfl hn) (wk53 dy) (by decide) rfl (r := 62) (wc53_11 dy) ?_
    refine v_iload_n 34 1 rfl rfl rfl ?_
    refine v_iconst 35 rfl ?_
    refine v_iast (N := 60) 36 rfl (al 62 rfl hn) (wk62 dy) (wn62 dy) (by decide) c1 (by decide) ?_
    exact v_ret (v := none) 37 rfl (Nat.zero_le _) (Nat.zero_le _) trivial rfl h
theorem wX12_takeOff {d n : Nat} {dy : Nat → Shp} {g : Hp} {P : Pst} {x1 : Int} (hn : 100 ≤ n) (h : (0 ≤ x1 ∧ x1 < 60) ∧ (((g 61 x1.toNat) ≠ 0) → (0 ≤ g 60 x1.toNat ∧ g 60 x1.toNat < 60) ∧ P none n (W0 dy) (up2 (up2 (up2 (up2 g 67 ((g 60 x1.toNat).toNat) ((-1))) 60 x1.toNat ((-1))) 61 x1.toNat ((-1))) 62 x1.toNat 0)) ∧ (((g 61 x1.toNat) = 0) → (0 ≤ g 60 x1.toNat ∧ g 60 x1.toNat < 60) ∧ P none n (W0 dy) (up2 (up2 (up2 (up2 g 66 ((g 60 x1.toNat).toNat) ((-1))) 60 x1.toNat ((-1))) 61 x1.toNat ((-1))) 62 x1.toNat 0))) : Runs miX12_takeOff d [.ref 53, I_ x1] n (W0 dy) g P := Runs.of rfl rfl deX12_takeOff (Nat.le_of_ble_eq_true rfl) (bX12_takeOff_0 hn h)
