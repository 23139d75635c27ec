theorem lm12_193_same : LkM miX12_same 193 Lib.Math.max.name Lib.Math.max.code 2 .int := ⟨tbG_in (List.mem_append_right _ (List.mem_of_getElem? (i := 1380) (by decide +kernel))) rfl, tbG_in (List.mem_append_right _ (List.mem_of_getElem? (i := 536) (by decide +kernel))) rfl, tbG_in (List.mem_append_right _ (List.mem_of_getElem? (i := 15) (by decide +kernel))) rfl, tbG_in (List.mem_append_right _ (List.mem_of_getElem? (i := 537) (by decide +kernel))) rfl⟩
theorem lv12_274_same_11 : LkV miX12_same miX12_topped 274 1 11 := ⟨⟨⟨tbG_in (List.mem_append_right _ (List.mem_of_getElem? (i := 1501) (by decide +kernel))) rfl, tbG_in (List.mem_append_right _ (List.mem_of_getElem? (i := 9) (by decide +kernel))) rfl, tbG_in (List.mem_append_right _ (List.mem_of_getElem? (i := 1498) (by decide +kernel))) rfl⟩, ⟨by decide +kernel, by decide +kernel, by decide +kernel⟩, by decide⟩, tbG_in (List.mem_append_right _ (List.mem_of_getElem? (i := 1500) (by decide +kernel))) rfl, RX12, TX12, 58, rfl, tbG_in (List.mem_append_left _ (List.mem_of_getElem? (i := 70) (by decide +kernel))) rfl⟩
theorem lv12_252_same_11 : LkV miX12_same miX12_orders 252 0 11 := ⟨⟨⟨tbG_in (List.mem_append_right _ (List.mem_of_getElem? (i := 1469) (by decide +kernel))) rfl, tbG_in (List.mem_append_right _ (List.mem_of_getElem? (i := 9) (by decide +kernel))) rfl, tbG_in (List.mem_append_right _ (List.mem_of_getElem? (i := 1466) (by decide +kernel))) rfl⟩, ⟨by decide +kernel, by decide +kernel, by decide +kernel⟩, by decide⟩, tbG_in (List.mem_append_right _ (List.mem_of_getElem? (i := 1468) (by decide +kernel))) rfl, RX12, TX12, 58, rfl, tbG_in (List.mem_append_left _ (List.mem_of_getElem? (i := 64) (by decide +kernel))) rfl⟩
theorem lv12_378_same_11 : LkV miX12_same miX12_isLike 378 2 11 := ⟨⟨⟨tbG_in (List.mem_append_right _ (List.mem_of_getElem? (i := 1648) (by decide +kernel))) rfl, tbG_in (List.mem_append_right _ (List.mem_of_getElem? (i := 9) (by decide +kernel))) rfl, tbG_in (List.mem_append_right _ (List.mem_of_getElem? (i := 1645) (by decide +kernel))) rfl⟩, ⟨by decide +kernel, by decide +kernel, by decide +kernel⟩, by decide⟩, tbG_in (List.mem_append_right _ (List.mem_of_getElem? (i := 1647) (by decide +kernel))) rfl, RX12, TX12, 58, rfl, tbG_in (List.mem_append_left _ (List.mem_of_getElem? (i := 92) (by decide +kernel))) rfl⟩
set_option maxHeartbeats 8000000 in
set_option maxRecDepth 4000 in
theorem bX12_same_0 {d n : Nat} {dy : Nat → Shp} {g : Hp} {P : Pst} {x1 : Int} {x2 : Int} (hn : 100 ≤ n) (h : Runs miX12_topped d [.ref 53, I_ x1] n (W0 dy) (up2 g 53 1 0) (fun v n' S' g' => V miX12_same (d + 1) 11 [(0, .ref 53), (1, I_ x1), (2, I_ x2)] (v.toList ++ [.ref 53]) n' S' g' 0 0 P)) : V miX12_same (d + 1) 0 [(0, .ref 53), (1, I_ x1), (2, I_ x2)] [] n (W0 dy) g 0 0 P := by
  refine v_aload_n 0 0 rfl rfl rfl ?_
  refine v_iconst 1 rfl ?_
  refine v_putI 2 rfl fl12_148_11 (al 53 rfl hn) (wk53 dy) (by decide) rfl (wc53_1 dy) (by decide) ?_
  refine v_aload_n 3 0 rfl rfl rfl ?_
  refine v_aload_n 4 0 rfl rfl rfl ?_
  refine v_iload_n 5 1 rfl rfl rfl ?_
  refine v_callV (st := [.ref 53]) [I_ x1] 6 rfl lv12_274_same_11 (al 53 rfl hn) (wk53 dy) (by decide) rfl (Nat.le_refl _) (Nat.le_refl _) ?_
  exact h
set_option maxHeartbeats 8000000 in
set_option maxRecDepth 4000 in
theorem bX12_same_11 {d n : Nat} {dy : Nat → Shp} {g : Hp} {P : Pst} {x1 : Int} {x2 : Int} {xs1 : Int} (hn : 100 ≤ n) (h : (i3 xs1) ∧ ((xs1 = 2) → P (some (I_ ((-1)))) n (W0 dy) (up2 g 53 0 2)) ∧ ((xs1 ≠ 2) → Runs miX12_topped d [.ref 53, I_ x2] n (W0 dy) g (fun v n' S' g' => V miX12_same (d + 1) 20 [(0, .ref 53), (1, I_ x1), (2, I_ x2)] (v.toList ++ [.ref 53]) n' S' g' 0 0 P))) : V miX12_same (d + 1) 11 [(0, .ref 53), (1, I_ x1), (2, I_ x2)] [I_ xs1, .ref 53] n (W0 dy) g 0 0 P := by
  refine v_iconst 7 rfl ?_
  have c1 := h.1
  have h := h.2
  refine v_icmp_eq 8 rfl (tgt := 24) rfl c1 (by decide) (fun q2 => ?_) (fun q2 => ?_)
  · have h := h.1 q2
    refine v_iconst 14 rfl ?_
    refine v_goto 15 rfl (tgt := 41) rfl ?_
    refine v_putI 23 rfl fl12_152_11 (al 53 rfl hn) (wk53 dy) (by decide) rfl (wc53_0 dy) (by decide) ?_
    refine v_aload_n 24 0 rfl rfl rfl ?_
    refine v_gI 25 rfl fl12_152_11.r (al 53 rfl hn) (wk53 dy) (by decide) rfl (wc53_0 dy) (x := 2) rfl ?_
    refine v_rng fun w3 => ?_
    have p4 : i3 (2) := rI w3 (q := 0) (al 53 rfl hn) (wk53 dy) rfl rfl
    refine v_if_le 26 rfl (tgt := 53) rfl (by decide) (fun q5 => ?_) (fun q5 => ?_)
    · exact absurd q5 (by decide)
    · refine v_iconst 27 rfl ?_
      exact v_ret (v := some (I_ ((-1)))) 28 rfl (Nat.zero_le _) (Nat.zero_le _) trivial rfl h
  · have h := h.2 q2
    refine v_aload_n 9 0 rfl rfl rfl ?_
    refine v_iload_n 10 2 rfl rfl rfl ?_
    refine v_callV (st := [.ref 53]) [I_ x2] 11 rfl lv12_274_same_11 (al 53 rfl hn) (wk53 dy) (by decide) rfl (Nat.le_refl _) (Nat.le_refl _) ?_
    exact h
set_option maxHeartbeats 8000000 in
set_option maxRecDepth 4000 in
theorem bX12_same_20 {d n : Nat} {dy : Nat → Shp} {g : Hp} {P : Pst} {x1 : Int} {x2 : Int} {xs1 : Int} (hn : 100 ≤ n) (h : (i3 xs1) ∧ ((xs1 ≠ 2) → Runs miX12_topped d [.ref 53, I_ x1] n (W0 dy) g (fun v n' S' g' => V miX12_same (d + 1) 33 [(0, .ref 53), (1, I_ x1), (2, I_ x2)] (v.toList ++ [.ref 53]) n' S' g' 0 0 P)) ∧ ((xs1 = 2) → P (some (I_ ((-1)))) n (W0 dy) (up2 g 53 0 2))) : V miX12_same (d + 1) 20 [(0, .ref 53), (1, I_ x1), (2, I_ x2)] [I_ xs1, .ref 53] n (W0 dy) g 0 0 P := by
  refine v_iconst 12 rfl ?_
  have c1 := h.1
  have h := h.2
  refine v_icmp_ne 13 rfl (tgt := 28) rfl c1 (by decide) (fun q2 => ?_) (fun q2 => ?_)
  · have h := h.1 q2
    refine v_aload_n 16 0 rfl rfl rfl ?_
    refine v_iload_n 17 1 rfl rfl rfl ?_
    refine v_callV (st := [.ref 53]) [I_ x1] 18 rfl lv12_274_same_11 (al 53 rfl hn) (wk53 dy) (by decide) rfl (Nat.le_refl _) (Nat.le_refl _) ?_
    exact h
  · have h := h.2 q2
    refine v_iconst 14 rfl ?_
    refine v_goto 15 rfl (tgt := 41) rfl ?_
    refine v_putI 23 rfl fl12_152_11 (al 53 rfl hn) (wk53 dy) (by decide) rfl (wc53_0 dy) (by decide) ?_
    refine v_aload_n 24 0 rfl rfl rfl ?_
    refine v_gI 25 rfl fl12_152_11.r (al 53 rfl hn) (wk53 dy) (by decide) rfl (wc53_0 dy) (x := 2) rfl ?_
    refine v_rng fun w3 => ?_
    have p4 : i3 (2) := rI w3 (q := 0) (al 53 rfl hn) (wk53 dy) rfl rfl
    refine v_if_le 26 rfl (tgt := 53) rfl (by decide) (fun q5 => ?_) (fun q5 => ?_)
    · exact absurd q5 (by decide)
    · refine v_iconst 27 rfl ?_
      exact v_ret (v := some (I_ ((-1)))) 28 rfl (Nat.zero_le _) (Nat.zero_le _) trivial rfl h
set_option maxHeartbeats 8000000 in
set_option maxRecDepth 4000 in
theorem bX12_same_33 {d n : Nat} {dy : Nat → Shp} {g : Hp} {P : Pst} {x1 : Int} {x2 : Int} {xs1 : Int} (hn : 100 ≤ n) (h : Runs miX12_topped d [.ref 53, I_ x2] n (W0 dy) g (fun v n' S' g' => V miX12_same (d + 1) 38 [(0, .ref 53), (1, I_ x1), (2, I_ x2)] (v.toList ++ [I_ xs1, .ref 53]) n' S' g' 0 0 P)) : V miX12_same (d + 1) 33 [(0, .ref 53), (1, I_ x1), (2, I_ x2)] [I_ xs1, .ref 53] n (W0 dy) g 0 0 P := by
  refine v_aload_n 19 0 rfl rfl rfl ?_
  refine v_iload_n 20 2 rfl rfl rfl ?_
  refine v_callV (st := [I_ xs1, .ref 53]) [I_ x2] 21 rfl lv12_274_same_11 (al 53 rfl hn) (wk53 dy) (by decide) rfl (Nat.le_refl _) (Nat.le_refl _) ?_
  exact h
set_option maxHeartbeats 8000000 in
set_option maxRecDepth 4000 in
theorem bX12_same_38 {d n : Nat} {dy : Nat → Shp} {g : Hp} {P : Pst} {x1 : Int} {x2 : Int} {xs1 : Int} {xs2 : Int} (hn : 100 ≤ n) (h : (i3 xs1) ∧ (i3 xs2) ∧ (((max xs1 xs2) ≤ 0) → Runs miX12_orders d [.ref 53] n (W0 dy) (up2 g 53 0 (max xs1 xs2)) (fun v n' S' g' => V miX12_same (d + 1) 57 [(0, .ref 53), (1, I_ x1), (2, I_ x2)] (v.toList ++ []) n' S' g' 0 0 P)) ∧ ((0 < (max xs1 xs2)) → P (some (I_ ((-1)))) n (W0 dy) (up2 g 53 0 (max xs1 xs2)))) : V miX12_same (d + 1) 38 [(0, .ref 53), (1, I_ x1), (2, I_ x2)] [I_ xs2, I_ xs1, .ref 53] n (W0 dy) g 0 0 P := by
  have c1 := h.1
  have h := h.2
  have c2 := h.1
  have h := h.2
  refine v_mmax (st := [.ref 53]) 22 rfl lm12_193_same rfl (Nat.zero_le _) (Nat.zero_le _) c1 c2 ?_
  refine v_putI 23 rfl fl12_152_11 (al 53 rfl hn) (wk53 dy) (by decide) rfl (wc53_0 dy) (max_i3 c1 c2) ?_
  refine v_aload_n 24 0 rfl rfl rfl ?_
  refine v_gI 25 rfl fl12_152_11.r (al 53 rfl hn) (wk53 dy) (by decide) rfl (wc53_0 dy) (x := max xs1 xs2) rfl ?_
  refine v_rng fun w3 => ?_
  have p4 : i3 (max xs1 xs2) := rI w3 (q := 0) (al 53 rfl hn) (wk53 dy) rfl rfl
  refine v_if_le 26 rfl (tgt := 53) rfl p4 (fun q5 => ?_) (fun q5 => ?_)
  · have h := h.1 q5
    refine v_aload_n 29 0 rfl rfl rfl ?_
    refine v_callV (st := []) [] 30 rfl lv12_252_same_11 (al 53 rfl hn) (wk53 dy) (by decide) rfl (Nat.le_refl _) (Nat.le_refl _) ?_
    exact h
  · have h := h.2 q5
    refine v_iconst 27 rfl ?_
    exact v_ret (v := some (I_ ((-1)))) 28 rfl (Nat.zero_le _) (Nat.zero_le _) trivial rfl h
set_option maxHeartbeats 8000000 in
set_option maxRecDepth 4000 in
theorem bX12_same_57 {d n : Nat} {dy : Nat → Shp} {g : Hp} {P : Pst} {x1 : Int} {x2 : Int} (hn : 100 ≤ n) (h : V miX12_same (d + 1) 59 [(0, .ref 53), (1, I_ x1), (2, I_ x2), (3, I_ 0)] [] n (W0 dy) g 0 0 P) : V miX12_same (d + 1) 57 [(0, .ref 53), (1, I_ x1), (2, I_ x2)] [] n (W0 dy) g 0 0 P := by
  refine v_iconst 31 rfl ?_
  refine v_istore_n 32 [1, 2, 3, 0] rfl rfl (by decide) rfl ?_
  exact h
set_option maxHeartbeats 8000000 in
set_option maxRecDepth 4000 in
theorem bX12_same_59 {d n : Nat} {dy : Nat → Shp} {g : Hp} {P : Pst} {x1 : Int} {x2 : Int} {x3 : Int} (hn : 100 ≤ n) (h : (i3 x3) ∧ (((g 53 5) ≤ x3) → (0 ≤ x1 ∧ x1 < 60) ∧ (0 ≤ x2 ∧ x2 < 60) ∧ (((g 73 x1.toNat) ≠ (g 73 x2.toNat)) → P (some (I_ 0)) n (W0 dy) g) ∧ (((g 73 x1.toNat) = (g 73 x2.toNat)) → P (some (I_ 1)) n (W0 dy) g)) ∧ ((x3 < (g 53 5)) → (0 ≤ x3 ∧ x3 < 60) ∧ V miX12_same (d + 1) 78 [(0, .ref 53), (1, I_ x1), (2, I_ x2), (3, I_ x3), (4, I_ (g 71 x3.toNat)), (5, I_ 0)] [] n (W0 dy) g 0 0 P)) : V miX12_same (d + 1) 59 [(0, .ref 53), (1, I_ x1), (2, I_ x2), (3, I_ x3)] [] n (W0 dy) g 0 0 P := by
  refine v_iload_n 33 3 rfl rfl rfl ?_
  refine v_aload_n 34 0 rfl rfl rfl ?_
  refine v_gI 35 rfl fl12_169_11.r (al 53 rfl hn) (wk53 dy) (by decide) rfl (wc53_5 dy) (x := g 53 5) rfl ?_
  refine v_rng fun w1 => ?_
  have p2 : i3 (g 53 5) := rI w1 (q := 5) (al 53 rfl hn) (wk53 dy) rfl rfl
  have c3 := h.1
  have h := h.2
  refine v_icmp_ge 36 rfl (tgt := 142) rfl c3 p2 (fun q4 => ?_) (fun q4 => ?_)
  · have h := h.1 q4
    refine v_aload_n 75 0 rfl rfl rfl ?_
    refine v_gK 76 rfl fl12_68_11.r (al 53 rfl hn) (wk53 dy) (by decide) rfl (r := 73) (wc53_22 dy) ?_
    refine v_iload_n 77 1 rfl rfl rfl ?_
    have c5 := h.1
    have h := h.2
    refine v_ia (N := 60) 78 rfl (al 73 rfl hn) (wk73 dy) (wn73 dy) (by decide) c5 (y := g 73 x1.toNat) rfl ?_
    refine v_rng fun w6 => ?_
    have p7 : i3 (g 73 x1.toNat) := rI w6 (q := x1.toNat) (al 73 rfl hn) (wk73 dy) rfl rfl
    refine v_aload_n 79 0 rfl rfl rfl ?_
    refine v_gK 80 rfl fl12_68_11.r (al 53 rfl hn) (wk53 dy) (by decide) rfl (r := 73) (wc53_22 dy) ?_
    refine v_iload_n 81 2 rfl rfl rfl ?_
    have c8 := h.1
    have h := h.2
    refine v_ia (N := 60) 82 rfl (al 73 rfl hn) (wk73 dy) (wn73 dy) (by decide) c8 (y := g 73 x2.toNat) rfl ?_
    refine v_rng fun w9 => ?_
    have p10 : i3 (g 73 x2.toNat) := rI w9 (q := x2.toNat) (al 73 rfl hn) (wk73 dy) rfl rfl
    refine v_icmp_ne 83 rfl (tgt := 161) rfl p7 p10 (fun q11 => ?_) (fun q11 => ?_)
    · have h := h.1 q11
      refine v_iconst 86 rfl ?_
      exact v_ret (v := some (I_ 0)) 87 rfl (Nat.zero_le _) (Nat.zero_le _) trivial rfl h
    · have h := h.2 q11
      refine v_iconst 84 rfl ?_
      refine v_goto 85 rfl (tgt := 162) rfl ?_
      exact v_ret (v := some (I_ 1)) 87 rfl (Nat.zero_le _) (Nat.zero_le _) trivial rfl h
  · have h := h.2 q4
    refine v_aload_n 37 0 rfl rfl rfl ?_
    refine v_gK 38 rfl fl12_62_11.r (al 53 rfl hn) (wk53 dy) (by decide) rfl (r := 71) (wc53_20 dy) ?_
    refine v_iload_n 39 3 rfl rfl rfl ?_
    have c12 := h.1
    have h := h.2
    refine v_ia (N := 60) 40 rfl (al 71 rfl hn) (wk71 dy) (wn71 dy) (by decide) c12 (y := g 71 x3.toNat) rfl ?_
    refine v_rng fun w13 => ?_
    have p14 : i3 (g 71 x3.toNat) := rI w13 (q := x3.toNat) (al 71 rfl hn) (wk71 dy) rfl rfl
    refine v_istore 41 [1, 2, 3, 4, 0] rfl (by decide) rfl ?_
    refine v_iconst 42 rfl ?_
    refine v_istore 43 [1, 2, 3, 4, 5, 0] rfl (by decide) rfl ?_
    exact h
set_option maxHeartbeats 8000000 in
set_option maxRecDepth 4000 in
theorem bX12_same_78 {d n : Nat} {dy : Nat → Shp} {g : Hp} {P : Pst} {x1 : Int} {x2 : Int} {x3 : Int} {x4 : Int} {x5 : Int} (hn : 100 ≤ n) (h : (i3 x5) ∧ (i3 x3) ∧ ((x3 ≤ x5) → ((x3 ≤ x5) → (0 ≤ x4 ∧ x4 < 60) ∧ V miX12_same (d + 1) 59 [(0, .ref 53), (1, I_ x1), (2, I_ x2), (3, I_ (x3 + 1))] [] n (W0 dy) (up2 g 73 x4.toNat x4) 0 0 P) ∧ ((x5 < x3) → (0 ≤ x5 ∧ x5 < 60) ∧ (0 ≤ g 71 x5.toNat ∧ g 71 x5.toNat < 60) ∧ (0 ≤ x4 ∧ x4 < 60) ∧ V miX12_same (d + 1) 59 [(0, .ref 53), (1, I_ x1), (2, I_ x2), (3, I_ (x3 + 1))] [] n (W0 dy) (up2 g 73 x4.toNat (g 73 ((g 71 x5.toNat).toNat))) 0 0 P)) ∧ ((x5 < x3) → (0 ≤ x5 ∧ x5 < 60) ∧ Runs miX12_isLike d [.ref 53, I_ (g 71 x5.toNat), I_ x4] n (W0 dy) g (fun v n' S' g' => V miX12_same (d + 1) 97 [(0, .ref 53), (1, I_ x1), (2, I_ x2), (3, I_ x3), (4, I_ x4), (5, I_ x5)] (v.toList ++ []) n' S' g' 0 0 P))) : V miX12_same (d + 1) 78 [(0, .ref 53), (1, I_ x1), (2, I_ x2), (3, I_ x3), (4, I_ x4), (5, I_ x5)] [] n (W0 dy) g 0 0 P := by
  refine v_iload 44 5 rfl rfl ?_
  refine v_iload_n 45 3 rfl rfl rfl ?_
  have c1 := h.1
  have h := h.2
  have c2 := h.1
  have h := h.2
  refine v_icmp_ge 46 rfl (tgt := 106) rfl c1 c2 (fun q3 => ?_) (fun q3 => ?_)
  · have h := h.1 q3
    refine v_aload_n 57 0 rfl rfl rfl ?_
    refine v_gK 58 rfl fl12_68_11.r (al 53 rfl hn) (wk53 dy) (by decide) rfl (r := 73) (wc53_22 dy) ?_
    refine v_iload 59 4 rfl rfl ?_
    refine v_iload 60 5 rfl rfl ?_
    refine v_iload_n 61 3 rfl rfl rfl ?_
    refine v_icmp_ge 62 rfl (tgt := 133) rfl c1 c2 (fun q4 => ?_) (fun q4 => ?_)
    · have h := h.1 q4
      refine v_iload 71 4 rfl rfl ?_
      have c5 := h.1
      have h := h.2
      refine v_iast (N := 60) 72 rfl (al 73 rfl hn) (wk73 dy) (wn73 dy) (by decide) c5 (ix3 c5 (by decide)) ?_
      refine v_iinc 73 3 [1, 2, 3, 0, 4, 5] rfl rfl (by decide) rfl ?_
      refine v_goto 74 rfl (tgt := 59) rfl ?_
      refine v_loc [0, 1, 2, 3] rfl ?_
      exact h
    · have h := h.2 q4
      refine v_aload_n 63 0 rfl rfl rfl ?_
      refine v_gK 64 rfl fl12_68_11.r (al 53 rfl hn) (wk53 dy) (by decide) rfl (r := 73) (wc53_22 dy) ?_
      refine v_aload_n 65 0 rfl rfl rfl ?_
      refine v_gK 66 rfl fl12_62_11.r (al 53 rfl hn) (wk53 dy) (by decide) rfl (r := 71) (wc53_20 dy) ?_
      refine v_iload 67 5 rfl rfl ?_
      have c6 := h.1
      have h := h.2
      refine v_ia (N := 60) 68 rfl (al 71 rfl hn) (wk71 dy) (wn71 dy) (by decide) c6 (y := g 71 x5.toNat) rfl ?_
      refine v_rng fun w7 => ?_
      have p8 : i3 (g 71 x5.toNat) := rI w7 (q := x5.toNat) (al 71 rfl hn) (wk71 dy) rfl rfl
      have c9 := h.1
      have h := h.2
      refine v_ia (N := 60) 69 rfl (al 73 rfl hn) (wk73 dy) (wn73 dy) (by decide) c9 (y := g 73 ((g 71 x5.toNat).toNat)) rfl ?_
      refine v_rng fun w10 => ?_
      have p11 : i3 (g 73 ((g 71 x5.toNat).toNat)) := rI w10 (q := ((g 71 x5.toNat).toNat)) (al 73 rfl hn) (wk73 dy) rfl rfl
      refine v_goto 70 rfl (tgt := 135) rfl ?_
      have c12 := h.1
      have h := h.2
      refine v_iast (N := 60) 72 rfl (al 73 rfl hn) (wk73 dy) (wn73 dy) (by decide) c12 p11 ?_
      refine v_iinc 73 3 [1, 2, 3, 0, 4, 5] rfl rfl (by decide) rfl ?_
      refine v_goto 74 rfl (tgt := 59) rfl ?_
      refine v_loc [0, 1, 2, 3] rfl ?_
      exact h
  · have h := h.2 q3
    refine v_aload_n 47 0 rfl rfl rfl ?_
    refine v_aload_n 48 0 rfl rfl rfl ?_
    refine v_gK 49 rfl fl12_62_11.r (al 53 rfl hn) (wk53 dy) (by decide) rfl (r := 71) (wc53_20 dy) ?_
    refine v_iload 50 5 rfl rfl ?_
    have c13 := h.1
    have h := h.2
    refine v_ia (N := 60) 51 rfl (al 71 rfl hn) (wk71 dy) (wn71 dy) (by decide) c13 (y := g 71 x5.toNat) rfl ?_
    refine v_rng fun w14 => ?_
    have p15 : i3 (g 71 x5.toNat) := rI w14 (q := x5.toNat) (al 71 rfl hn) (wk71 dy) rfl rfl
    refine v_iload 52 4 rfl rfl ?_
    refine v_callV (st := []) [I_ (g 71 x5.toNat), I_ x4] 53 rfl lv12_378_same_11 (al 53 rfl hn) (wk53 dy) (by decide) rfl (Nat.le_refl _) (Nat.le_refl _) ?_
    exact h
set_option maxHeartbeats 8000000 in
set_option maxRecDepth 4000 in
theorem bX12_same_97 {d n : Nat} {dy : Nat → Shp} {g : Hp} {P : Pst} {x1 : Int} {x2 : Int} {x3 : Int} {x4 : Int} {x5 : Int} {xs0 : Int} (hn : 100 ≤ n) (h : (i3 xs0) ∧ ((xs0 ≠ 0) → (i3 x5) ∧ (i3 x3) ∧ ((x3 ≤ x5) → (0 ≤ x4 ∧ x4 < 60) ∧ V miX12_same (d + 1) 59 [(0, .ref 53), (1, I_ x1), (2, I_ x2), (3, I_ (x3 + 1))] [] n (W0 dy) (up2 g 73 x4.toNat x4) 0 0 P) ∧ ((x5 < x3) → (0 ≤ x5 ∧ x5 < 60) ∧ (0 ≤ g 71 x5.toNat ∧ g 71 x5.toNat < 60) ∧ (0 ≤ x4 ∧ x4 < 60) ∧ V miX12_same (d + 1) 59 [(0, .ref 53), (1, I_ x1), (2, I_ x2), (3, I_ (x3 + 1))] [] n (W0 dy) (up2 g 73 x4.toNat (g 73 ((g 71 x5.toNat).toNat))) 0 0 P)) ∧ ((xs0 = 0) → V miX12_same (d + 1) 78 [(0, .ref 53), (1, I_ x1), (2, I_ x2), (3, I_ x3), (4, I_ x4), (5, I_ (x5 + 1))] [] n (W0 dy) g 0 0 P)) : V miX12_same (d + 1) 97 [(0, .ref 53), (1, I_ x1), (2, I_ x2), (3, I_ x3), (4, I_ x4), (5, I_ x5)] [I_ xs0] n (W0 dy) g 0 0 P := by
  have c1 := h.1
  have h := h.2
  refine v_if_ne 54 rfl (tgt := 106) rfl c1 (fun q2 => ?_) (fun q2 => ?_)
  · have h := h.1 q2
    refine v_aload_n 57 0 rfl rfl rfl ?_
    refine v_gK 58 rfl fl12_68_11.r (al 53 rfl hn) (wk53 dy) (by decide) rfl (r := 73) (wc53_22 dy) ?_
    refine v_iload 59 4 rfl rfl ?_
    refine v_iload 60 5 rfl rfl ?_
    refine v_iload_n 61 3 rfl rfl rfl ?_
    have c3 := h.1
    have h := h.2
    have c4 := h.1
    have h := h.2
    refine v_icmp_ge 62 rfl (tgt := 133) rfl c3 c4 (fun q5 => ?_) (fun q5 => ?_)
    · have h := h.1 q5
      refine v_iload 71 4 rfl rfl ?_
      have c6 := h.1
      have h := h.2
      refine v_iast (N := 60) 72 rfl (al 73 rfl hn) (wk73 dy) (wn73 dy) (by decide) c6 (ix3 c6 (by decide)) ?_
      refine v_iinc 73 3 [1, 2, 3, 0, 4, 5] rfl rfl (by decide) rfl ?_
      refine v_goto 74 rfl (tgt := 59) rfl ?_
      refine v_loc [0, 1, 2, 3] rfl ?_
      exact h
    · have h := h.2 q5
      refine v_aload_n 63 0 rfl rfl rfl ?_
      refine v_gK 64 rfl fl12_68_11.r (al 53 rfl hn) (wk53 dy) (by decide) rfl (r := 73) (wc53_22 dy) ?_
      refine v_aload_n 65 0 rfl rfl rfl ?_
      refine v_gK 66 rfl fl12_62_11.r (al 53 rfl hn) (wk53 dy) (by decide) rfl (r := 71) (wc53_20 dy) ?_
      refine v_iload 67 5 rfl rfl ?_
      have c7 := h.1
      have h := h.2
      refine v_ia (N := 60) 68 rfl (al 71 rfl hn) (wk71 dy) (wn71 dy) (by decide) c7 (y := g 71 x5.toNat) rfl ?_
      refine v_rng fun w8 => ?_
      have p9 : i3 (g 71 x5.toNat) := rI w8 (q := x5.toNat) (al 71 rfl hn) (wk71 dy) rfl rfl
      have c10 := h.1
      have h := h.2
      refine v_ia (N := 60) 69 rfl (al 73 rfl hn) (wk73 dy) (wn73 dy) (by decide) c10 (y := g 73 ((g 71 x5.toNat).toNat)) rfl ?_
      refine v_rng fun w11 => ?_
      have p12 : i3 (g 73 ((g 71 x5.toNat).toNat)) := rI w11 (q := ((g 71 x5.toNat).toNat)) (al 73 rfl hn) (wk73 dy) rfl rfl
      refine v_goto 70 rfl (tgt := 135) rfl ?_
      have c13 := h.1
      have h := h.2
      refine v_iast (N := 60) 72 rfl (al 73 rfl hn) (wk73 dy) (wn73 dy) (by decide) c13 p12 ?_
      refine v_iinc 73 3 [1, 2, 3, 0, 4, 5] rfl rfl (by decide) rfl ?_
      refine v_goto 74 rfl (tgt := 59) rfl ?_
      refine v_loc [0, 1, 2, 3] rfl ?_
      exact h
  · have h := h.2 q2
    refine v_iinc 55 5 [1, 2, 3, 4, 5, 0] rfl rfl (by decide) rfl ?_
    refine v_goto 56 rfl (tgt := 78) rfl ?_
    exact h
theorem wX12_same {d n : Nat} {dy : Nat → Shp} {g : Hp} {P : Pst} {x1 : Int} {x2 : Int} (hn : 100 ≤ n) (h : Runs miX12_topped d [.ref 53, I_ x1] n (W0 dy) (up2 g 53 1 0) (fun v n' S' g' => V miX12_same (d + 1) 11 [(0, .ref 53), (1, I_ x1), (2, I_ x2)] (v.toList ++ [.ref 53]) n' S' g' 0 0 P)) : Runs miX12_same (d + 1) [.ref 53, I_ x1, I_ x2] n (W0 dy) g P := Runs.of rfl rfl deX12_same (Nat.le_of_ble_eq_true rfl) (bX12_same_0 hn h)
theorem fl12_381_11 : FL RX12 381 11 29 false .int := ⟨RX12, TX12, 58, "MobileMakerModel", rfl, rfl, by decide, kf11, tbG_in (List.mem_append_right _ (List.mem_of_getElem? (i := 1156) (by decide +kernel))) rfl, Or.inl rfl, rfl, by decide +kernel, ⟨tyX12, tyX12_ok⟩, nmX12, fun h => by cases h⟩
theorem fl12_84_11 : FL RX12 84 11 28 true (.array .byte) := ⟨RX12, TX12, 58, "MobileMakerModel", rfl, rfl, by decide, kf11, tbG_in (List.mem_append_right _ (List.mem_of_getElem? (i := 1155) (by decide +kernel))) rfl, Or.inl rfl, rfl, by decide +kernel, ⟨tyX12, tyX12_ok⟩, nmX12, fun _ => rfl⟩
set_option maxHeartbeats 8000000 in
set_option maxRecDepth 4000 in
theorem bX12_put_0 {d n : Nat} {dy : Nat → Shp} {g : Hp} {P : Pst} {x1 : Int} (hn : 100 ≤ n) (h : ((600 ≤ (g 53 29)) → (i3 ((g 53 29) + 1)) ∧ P none n (W0 dy) (up2 g 53 29 ((g 53 29) + 1))) ∧ (((g 53 29) < 600) → (0 ≤ g 53 29 ∧ g 53 29 < 600) ∧ (i3 ((g 53 29) + 1)) ∧ P none n (W0 dy) (up2 (up2 g 78 ((g 53 29).toNat) (c2b x1)) 53 29 ((g 53 29) + 1)))) : V miX12_put d 0 [(0, .ref 53), (1, I_ x1)] [] n (W0 dy) g 0 0 P := by
  refine v_aload_n 0 0 rfl rfl rfl ?_
  refine v_gI 1 rfl fl12_381_11.r (al 53 rfl hn) (wk53 dy) (by decide) rfl (wc53_29 dy) (x := g 53 29) rfl ?_
  refine v_rng fun w1 => ?_
  have p2 : i3 (g 53 29) := rI w1 (q := 29) (al 53 rfl hn) (wk53 dy) rfl rfl
  refine v_sipush 2 rfl (by decide) ?_
  refine v_icmp_ge 3 rfl (tgt := 21) rfl p2 (by decide) (fun q3 => ?_) (fun q3 => ?_)
  · have h := h.1 q3
    refine v_aload_n 11 0 rfl rfl rfl ?_
    refine v_dup 12 rfl (by intro h; cases h) ?_
    refine v_gI 13 rfl fl12_381_11.r (al 53 rfl hn) (wk53 dy) (by decide) rfl (wc53_29 dy) (x := g 53 29) rfl ?_
    refine v_rng fun w4 => ?_
    have p5 : i3 (g 53 29) := rI w4 (q := 29) (al 53 rfl hn) (wk53 dy) rfl rfl
    refine v_iconst 14 rfl ?_
    refine v_iadd 15 rfl ?_
    have c6 := h.1
    have h := h.2
    refine v_putI 16 rfl fl12_381_11 (al 53 rfl hn) (wk53 dy) (by decide) rfl (wc53_29 dy) c6 ?_
    exact v_ret (v := none) 17 rfl (Nat.zero_le _) (Nat.zero_le _) trivial rfl h
  · have h := h.2 q3
    refine v_aload_n 4 0 rfl rfl rfl ?_
    refine v_gK 5 rfl fl12_84_11.r (al 53 rfl hn) (wk53 dy) (by decide) rfl (r := 78) (wc53_28 dy) ?_
    refine v_aload_n 6 0 rfl rfl rfl ?_
    refine v_gI 7 rfl fl12_381_11.r (al 53 rfl hn) (wk53 dy) (by decide) rfl (wc53_29 dy) (x := g 53 29) rfl ?_
    refine v_rng fun w7 => ?_
    have p8 : i3 (g 53 29) := rI w7 (q := 29) (al 53 rfl hn) (wk53 dy) rfl rfl
    refine v_iload_n 8 1 rfl rfl rfl ?_
    refine v_i2b 9 rfl ?_
    have c9 := h.1
    have h := h.2
    refine v_bast (N := 600) 10 rfl (al 78 rfl hn) (wk78 dy) (wn78 dy) (by decide) c9 (c2b_n _) (c2b_r _) ?_
    refine v_aload_n 11 0 rfl rfl rfl ?_
    refine v_dup 12 rfl (by intro h; cases h) ?_
    refine v_gI 13 rfl fl12_381_11.r (al 53 rfl hn) (wk53 dy) (by decide) rfl (wc53_29 dy) (x := g 53 29) rfl ?_
    refine v_rng fun w10 => ?_
    have p11 : i3 (g 53 29) := rI w10 (q := 29) (al 53 rfl hn) (wk53 dy) rfl rfl
    refine v_iconst 14 rfl ?_
    refine v_iadd 15 rfl ?_
    have c12 := h.1
    have h := h.2
    refine v_putI 16 rfl fl12_381_11 (al 53 rfl hn) (wk53 dy) (by decide) rfl (wc53_29 dy) c12 ?_
    exact v_ret (v := none) 17 rfl (Nat.zero_le _) (Nat.zero_le _) trivial rfl h
theorem wX12_put {d n : Nat} {dy : Nat → Shp} {g : Hp} {P : Pst} {x1 : Int} (hn : 100 ≤ n) (h : ((600 ≤ (g 53 29)) → (i3 ((g 53 29) + 1)) ∧ P none n (W0 dy) (up2 g 53 29 ((g 53 29) + 1))) ∧ (((g 53 29) < 600) → (0 ≤ g 53 29 ∧ g 53 29 < 600) ∧ (i3 ((g 53 29) + 1)) ∧ P none n (W0 dy) (up2 (up2 g 78 ((g 53 29).toNat) (c2b x1)) 53 29 ((g 53 29) + 1)))) : Runs miX12_put d [.ref 53, I_ x1] n (W0 dy) g P := Runs.of rfl rfl deX12_put (Nat.le_of_ble_eq_true rfl) (bX12_put_0 hn h)
theorem lv12_390_putNumber_11 : LkV miX12_putNumber miX12_put 390 1 11 := ⟨⟨⟨tbG_in (List.mem_append_right _ (List.mem_of_getElem? (i := 1668) (by decide +kernel))) rfl, tbG_in (List.mem_append_right _ (List.mem_of_getElem? (i := 9) (by decide +kernel))) rfl, tbG_in (List.mem_append_right _ (List.mem_of_getElem? (i := 1665) (by decide +kernel))) rfl⟩, ⟨by decide +kernel, by decide +kernel, by decide +kernel⟩, by decide⟩, tbG_in (List.mem_append_right _ (List.mem_of_getElem? (i := 1667) (by decide +kernel))) rfl, RX12, TX12, 58, rfl, tbG_in (List.mem_append_left _ (List.mem_of_getElem? (i := 96) (by decide +kernel))) rfl⟩
set_option maxHeartbeats 8000000 in
set_option maxRecDepth 4000 in
theorem bX12_putNumber_0 {d n : Nat} {dy : Nat → Shp} {g : Hp} {P : Pst} {x1 : Int} (hn : 100 ≤ n) (h : V miX12_putNumber (d + 1) 2 [(0, .ref 53), (1, L_ x1), (3, L_ 1)] [] n (W0 dy) g 0 0 P) : V miX12_putNumber (d + 1) 0 [(0, .ref 53), (1, L_ x1)] [] n (W0 dy) g 0 0 P := by
  refine v_lconst (v := 1) 0 rfl (by decide) ?_
  refine v_lstore_n 1 [1, 2, 0] rfl rfl (by decide) rfl ?_
  exact h
set_option maxHeartbeats 8000000 in
set_option maxRecDepth 4000 in
theorem bX12_putNumber_2 {d n : Nat} {dy : Nat → Shp} {g : Hp} {P : Pst} {x1 : Int} {x3 : Int} (hn : 100 ≤ n) (h : (i6 x1) ∧ (i6 x3) ∧ (x3 ≠ 0) ∧ (i6 (x1.tdiv x3)) ∧ (((x1.tdiv x3) ≤ 9) → V miX12_putNumber (d + 1) 21 [(0, .ref 53), (1, L_ x1), (3, L_ x3)] [] n (W0 dy) g 0 0 P) ∧ ((9 < (x1.tdiv x3)) → V miX12_putNumber (d + 1) 2 [(0, .ref 53), (1, L_ x1), (3, L_ (x3 * 10))] [] n (W0 dy) g 0 0 P)) : V miX12_putNumber (d + 1) 2 [(0, .ref 53), (1, L_ x1), (3, L_ x3)] [] n (W0 dy) g 0 0 P := by
  refine v_lload_n 2 1 rfl rfl rfl ?_
  refine v_lload_n 3 2 rfl rfl rfl ?_
  have c1 := h.1
  have h := h.2
  have c2 := h.1
  have h := h.2
  have c3 := h.1
  have h := h.2
  refine v_ldiv 4 rfl c1 c2 c3 ?_
  refine v_ldc2 (v := 9) 5 rfl (tbG_in (List.mem_append_right _ (List.mem_of_getElem? (i := 1673) (by decide +kernel))) rfl) ?_
  have c4 := h.1
  have h := h.2
  refine v_lif_le 6 rfl rfl (tgt := 21) rfl c4 (by decide) (fun q5 => ?_) (fun q5 => ?_)
  · have h := h.1 q5
    exact h
  · have h := h.2 q5
    refine v_lload_n 8 2 rfl rfl rfl ?_
    refine v_ldc2 (v := 10) 9 rfl (tbG_in (List.mem_append_right _ (List.mem_of_getElem? (i := 1674) (by decide +kernel))) rfl) ?_
    refine v_lmul 10 rfl ?_
    refine v_lstore_n 11 [1, 2, 0] rfl rfl (by decide) rfl ?_
    refine v_goto 12 rfl (tgt := 2) rfl ?_
    exact h
set_option maxHeartbeats 8000000 in
set_option maxRecDepth 4000 in
theorem bX12_putNumber_21 {d n : Nat} {dy : Nat → Shp} {g : Hp} {P : Pst} {x1 : Int} {x3 : Int} (hn : 100 ≤ n) (h : (i6 x3) ∧ ((x3 ≤ 0) → P none n (W0 dy) g) ∧ ((0 < x3) → (i6 x1) ∧ (x3 ≠ 0) ∧ (i6 (x1.tdiv x3)) ∧ Runs miX12_put d [.ref 53, I_ (48 + ((x1.tdiv x3).tmod 10))] n (W0 dy) g (fun v n' S' g' => V miX12_putNumber (d + 1) 43 [(0, .ref 53), (1, L_ x1), (3, L_ x3)] (v.toList ++ []) n' S' g' 0 0 P))) : V miX12_putNumber (d + 1) 21 [(0, .ref 53), (1, L_ x1), (3, L_ x3)] [] n (W0 dy) g 0 0 P := by
  refine v_lload_n 13 2 rfl rfl rfl ?_
  refine v_lconst (v := 0) 14 rfl (by decide) ?_
  have c1 := h.1
  have h := h.2
  refine v_lif_le 15 rfl rfl (tgt := 52) rfl c1 (by decide) (fun q2 => ?_) (fun q2 => ?_)
  · have h := h.1 q2
    exact v_ret (v := none) 32 rfl (Nat.zero_le _) (Nat.zero_le _) trivial rfl h
  · have h := h.2 q2
    refine v_aload_n 17 0 rfl rfl rfl ?_
    refine v_ldc2 (v := 48) 18 rfl (tbG_in (List.mem_append_right _ (List.mem_of_getElem? (i := 1675) (by decide +kernel))) rfl) ?_
    refine v_lload_n 19 1 rfl rfl rfl ?_
    refine v_lload_n 20 2 rfl rfl rfl ?_
    have c3 := h.1
    have h := h.2
    have c4 := h.1
    have h := h.2
    refine v_ldiv 21 rfl c3 c1 c4 ?_
    refine v_ldc2 (v := 10) 22 rfl (tbG_in (List.mem_append_right _ (List.mem_of_getElem? (i := 1674) (by decide +kernel))) rfl) ?_
    have c5 := h.1
    have h := h.2
    refine v_lrem 23 rfl c5 (by decide) (by decide) ?_
    refine v_ladd 24 rfl ?_
    refine v_l2i 25 rfl ?_
    refine v_callV (st := []) [I_ (48 + ((x1.tdiv x3).tmod 10))] 26 rfl lv12_390_putNumber_11 (al 53 rfl hn) (wk53 dy) (by decide) rfl (Nat.le_refl _) (Nat.le_refl _) ?_
    exact h
set_option maxHeartbeats 8000000 in
set_option maxRecDepth 4000 in
theorem bX12_putNumber_43 {d n : Nat} {dy : Nat → Shp} {g : Hp} {P : Pst} {x1 : Int} {x3 : Int} (hn : 100 ≤ n) (h : (i6 x3) ∧ V miX12_putNumber (d + 1) 21 [(0, .ref 53), (1, L_ x1), (3, L_ (x3.tdiv 10))] [] n (W0 dy) g 0 0 P) : V miX12_putNumber (d + 1) 43 [(0, .ref 53), (1, L_ x1), (3, L_ x3)] [] n (W0 dy) g 0 0 P := by
  refine v_lload_n 27 2 rfl rfl rfl ?_
  refine v_ldc2 (v := 10) 28 rfl (tbG_in (List.mem_append_right _ (List.mem_of_getElem? (i := 1674) (by decide +kernel))) rfl) ?_
  have c1 := h.1
  have h := h.2
  refine v_ldiv 29 rfl c1 (by decide) (by decide) ?_
  refine v_lstore_n 30 [1, 2, 0] rfl rfl (by decide) rfl ?_
  refine v_goto 31 rfl (tgt := 21) rfl ?_
  exact h
theorem wX12_putNumber {d n : Nat} {dy : Nat → Shp} {g : Hp} {P : Pst} {x1 : Int} (hn : 100 ≤ n) (h : V miX12_putNumber (d + 1) 2 [(0, .ref 53), (1, L_ x1), (3, L_ 1)] [] n (W0 dy) g 0 0 P) : Runs miX12_putNumber (d + 1) [.ref 53, L_ x1] n (W0 dy) g P := Runs.of rfl rfl deX12_putNumber (Nat.le_of_ble_eq_true rfl) (bX12_putNumber_0 hn h)
theorem fl12_142_11 : FL RX12 142 11 55 true (.array .int) := ⟨RX12, TX12, 58, "MobileMakerModel", rfl, rfl, by decide, kf11, tbG_in (List.mem_append_right _ (List.mem_of_getElem? (i := 1182) (by decide +kernel))) rfl, Or.inl rfl, rfl, by decide +kernel, ⟨tyX12, tyX12_ok⟩, nmX12, fun _ => rfl⟩
theorem fl12_393_11 : FL RX12 393 11 57 false .int := ⟨RX12, TX12, 58, "MobileMakerModel", rfl, rfl, by decide, kf11, tbG_in (List.mem_append_right _ (List.mem_of_getElem? (i := 1184) (by decide +kernel))) rfl, Or.inl rfl, rfl, by decide +kernel, ⟨tyX12, tyX12_ok⟩, nmX12, fun h => by cases h⟩
theorem fl12_145_11 : FL RX12 145 11 56 true (.array .int) := ⟨RX12, TX12, 58, "MobileMakerModel", rfl, rfl, by decide, kf11, tbG_in (List.mem_append_right _ (List.mem_of_getElem? (i := 1183) (by decide +kernel))) rfl, Or.inl rfl, rfl, by decide +kernel, ⟨tyX12, tyX12_ok⟩, nmX12, fun _ => rfl⟩
set_option maxHeartbeats 8000000 in
set_option maxRecDepth 4000 in
theorem bX12_later_0 {d n : Nat} {dy : Nat → Shp} {g : Hp} {P : Pst} {x1 : Int} {x2 : Int} (hn : 100 ≤ n) (h : (0 ≤ g 53 57 ∧ g 53 57 < 400) ∧ (i3 x1) ∧ (i3 x2) ∧ (i3 ((g 53 57) + 1)) ∧ P none n (W0 dy) (up2 (up2 (up2 g 97 ((g 53 57).toNat) x1) 98 ((g 53 57).toNat) x2) 53 57 ((g 53 57) + 1))) : V miX12_later d 0 [(0, .ref 53), (1, I_ x1), (2, I_ x2)] [] n (W0 dy) g 0 0 P := by
  refine v_aload_n 0 0 rfl rfl rfl ?_
  refine v_gK 1 rfl fl12_142_11.r (al 53 rfl hn) (wk53 dy) (by decide) rfl (r := 97) (wc53_55 dy) ?_
  refine v_aload_n 2 0 rfl rfl rfl ?_
  refine v_gI 3 rfl fl12_393_11.r (al 53 rfl hn) (wk53 dy) (by decide) rfl (wc53_57 dy) (x := g 53 57) rfl ?_
  refine v_rng fun w1 => ?_
  have p2 : i3 (g 53 57) := rI w1 (q := 57) (al 53 rfl hn) (wk53 dy) rfl rfl
  refine v_iload_n 4 1 rfl rfl rfl ?_
  have c3 := h.1
  have h := h.2
  have c4 := h.1
  have h := h.2
  refine v_iast (N := 400) 5 rfl (al 97 rfl hn) (wk97 dy) (wn97 dy) (by decide) c3 c4 ?_
  refine v_aload_n 6 0 rfl rfl rfl ?_
  refine v_gK 7 rfl fl12_145_11.r (al 53 rfl hn) (wk53 dy) (by decide) rfl (r := 98) (wc53_56 dy) ?_
  refine v_aload_n 8 0 rfl rfl rfl ?_
  refine v_gI 9 rfl fl12_393_11.r (al 53 rfl hn) (wk53 dy) (by decide) rfl (wc53_57 dy) (x := g 53 57) rfl ?_
  refine v_rng fun w5 => ?_
  have p6 : i3 (g 53 57) := rI w5 (q := 57) (al 53 rfl hn) (wk53 dy) rfl rfl
  refine v_iload_n 10 2 rfl rfl rfl ?_
  have c7 := h.1
  have h := h.2
  refine v_iast (N := 400) 11 rfl (al 98 rfl hn) (wk98 dy) (wn98 dy) (by decide) c3 c7 ?_
  refine v_aload_n 12 0 rfl rfl rfl ?_
  refine v_dup 13 rfl (by intro h; cases h) ?_
  refine v_gI 14 rfl fl12_393_11.r (al 53 rfl hn) (wk53 dy) (by decide) rfl (wc53_57 dy) (x := g 53 57) rfl ?_
  refine v_rng fun w8 => ?_
  have p9 : i3 (g 53 57) := rI w8 (q := 57) (al 53 rfl hn) (wk53 dy) rfl rfl
  refine v_iconst 15 rfl ?_
  refine v_iadd 16 rfl ?_
  have c10 := h.1
  have h := h.2
  refine v_putI 17 rfl fl12_393_11 (al 53 rfl hn) (wk53 dy) (by decide) rfl (wc53_57 dy) c10 ?_
  exact v_ret (v := none) 18 rfl (Nat.zero_le _) (Nat.zero_le _) trivial rfl h
theorem wX12_later {d n : Nat} {dy : Nat → Shp} {g : Hp} {P : Pst} {x1 : Int} {x2 : Int} (hn : 100 ≤ n) (h : (0 ≤ g 53 57 ∧ g 53 57 < 400) ∧ (i3 x1) ∧ (i3 x2) ∧ (i3 ((g 53 57) + 1)) ∧ P none n (W0 dy) (up2 (up2 (up2 g 97 ((g 53 57).toNat) x1) 98 ((g 53 57).toNat) x2) 53 57 ((g 53 57) + 1))) : Runs miX12_later d [.ref 53, I_ x1, I_ x2] n (W0 dy) g P := Runs.of rfl rfl deX12_later (Nat.le_of_ble_eq_true rfl) (bX12_later_0 hn h)
theorem lv12_274_show_11 : LkV miX12_show miX12_topped 274 1 11 := ⟨⟨⟨tbG_in (List.mem_append_right _ (List.mem_of_getElem? (i := 1501) (by decide +kernel))) rfl, tbG_in (List.mem_append_right _ (List.mem_of_getElem? (i := 9) (by decide +kernel))) rfl, tbG_in (List.mem_append_right _ (List.mem_of_getElem? (i := 1498) (by decide +kernel))) rfl⟩, ⟨by decide +kernel, by decide +kernel, by decide +kernel⟩, by decide⟩, tbG_in (List.mem_append_right _ (List.mem_of_getElem? (i := 1500) (by decide +kernel))) rfl, RX12, TX12, 58, rfl, tbG_in (List.mem_append_left _ (List.mem_of_getElem? (i := 70) (by decide +kernel))) rfl⟩
theorem lv12_396_show_11 : LkV miX12_show miX12_later 396 2 11 := ⟨⟨⟨tbG_in (List.mem_append_right _ (List.mem_of_getElem? (i := 1660) (by decide +kernel))) rfl, tbG_in (List.mem_append_right _ (List.mem_of_getElem? (i := 9) (by decide +kernel))) rfl, tbG_in (List.mem_append_right _ (List.mem_of_getElem? (i := 1657) (by decide +kernel))) rfl⟩, ⟨by decide +kernel, by decide +kernel, by decide +kernel⟩, by decide⟩, tbG_in (List.mem_append_right _ (List.mem_of_getElem? (i := 1659) (by decide +kernel))) rfl, RX12, TX12, 58, rfl, tbG_in (List.mem_append_left _ (List.mem_of_getElem? (i := 94) (by decide +kernel))) rfl⟩
theorem lv12_390_show_11 : LkV miX12_show miX12_put 390 1 11 := ⟨⟨⟨tbG_in (List.mem_append_right _ (List.mem_of_getElem? (i := 1668) (by decide +kernel))) rfl, tbG_in (List.mem_append_right _ (List.mem_of_getElem? (i := 9) (by decide +kernel))) rfl, tbG_in (List.mem_append_right _ (List.mem_of_getElem? (i := 1665) (by decide +kernel))) rfl⟩, ⟨by decide +kernel, by decide +kernel, by decide +kernel⟩, by decide⟩, tbG_in (List.mem_append_right _ (List.mem_of_getElem? (i := 1667) (by decide +kernel))) rfl, RX12, TX12, 58, rfl, tbG_in (List.mem_append_left _ (List.mem_of_getElem? (i := 96) (by decide +kernel))) rfl⟩
theorem lv12_400_show_11 : LkV miX12_show miX12_showPart 400 1 11 := ⟨⟨⟨tbG_in (List.mem_append_right _ (List.mem_of_getElem? (i := 1664) (by decide +kernel))) rfl, tbG_in (List.mem_append_right _ (List.mem_of_getElem? (i := 9) (by decide +kernel))) rfl, tbG_in (List.mem_append_right _ (List.mem_of_getElem? (i := 1661) (by decide +kernel))) rfl⟩, ⟨by decide +kernel, by decide +kernel, by decide +kernel⟩, by decide⟩, tbG_in (List.mem_append_right _ (List.mem_of_getElem? (i := 1663) (by decide +kernel))) rfl, RX12, TX12, 58, rfl, tbG_in (List.mem_append_left _ (List.mem_of_getElem? (i := 95) (by decide +kernel))) rfl⟩
theorem lv12_403_show_11 : LkV miX12_show miX12_putNumber 403 1 11 := ⟨⟨⟨tbG_in (List.mem_append_right _ (List.mem_of_getElem? (i := 1672) (by decide +kernel))) rfl, tbG_in (List.mem_append_right _ (List.mem_of_getElem? (i := 9) (by decide +kernel))) rfl, tbG_in (List.mem_append_right _ (List.mem_of_getElem? (i := 1669) (by decide +kernel))) rfl⟩, ⟨by decide +kernel, by decide +kernel, by decide +kernel⟩, by decide⟩, tbG_in (List.mem_append_right _ (List.mem_of_getElem? (i := 1671) (by decide +kernel))) rfl, RX12, TX12, 58, rfl, tbG_in (List.mem_append_left _ (List.mem_of_getElem? (i := 97) (by decide +kernel))) rfl⟩
set_option maxHeartbeats 8000000 in
set_option maxRecDepth 4000 in
theorem bX12_show_0 {d n : Nat} {dy : Nat → Shp} {g : Hp} {P : Pst} {x1 : Int} (hn : 100 ≤ n) (h : Runs miX12_topped d [.ref 53, I_ x1] n (W0 dy) (up2 g 53 1 0) (fun v n' S' g' => V miX12_show (d + 1) 11 [(0, .ref 53), (1, I_ x1)] (v.toList ++ [.ref 53]) n' S' g' 0 0 P)) : V miX12_show (d + 1) 0 [(0, .ref 53), (1, I_ x1)] [] n (W0 dy) g 0 0 P := by
  refine v_aload_n 0 0 rfl rfl rfl ?_
  refine v_iconst 1 rfl ?_
  refine v_putI 2 rfl fl12_148_11 (al 53 rfl hn) (wk53 dy) (by decide) rfl (wc53_1 dy) (by decide) ?_
  refine v_aload_n 3 0 rfl rfl rfl ?_
  refine v_aload_n 4 0 rfl rfl rfl ?_
  refine v_iload_n 5 1 rfl rfl rfl ?_
  refine v_callV (st := [.ref 53]) [I_ x1] 6 rfl lv12_274_show_11 (al 53 rfl hn) (wk53 dy) (by decide) rfl (Nat.le_refl _) (Nat.le_refl _) ?_
  exact h
set_option maxHeartbeats 8000000 in
set_option maxRecDepth 4000 in
theorem bX12_show_11 {d n : Nat} {dy : Nat → Shp} {g : Hp} {P : Pst} {x1 : Int} {xs1 : Int} (hn : 100 ≤ n) (h : (i3 xs1) ∧ ((xs1 ≤ 0) → Runs miX12_later d [.ref 53, I_ 0, I_ x1] n (W0 dy) (up2 (up2 (up2 g 53 0 xs1) 53 29 0) 53 57 0) (fun v n' S' g' => V miX12_show (d + 1) 39 [(0, .ref 53), (1, I_ x1)] (v.toList ++ []) n' S' g' 0 0 P)) ∧ ((0 < xs1) → P (some (I_ ((-1)))) n (W0 dy) (up2 g 53 0 xs1))) : V miX12_show (d + 1) 11 [(0, .ref 53), (1, I_ x1)] [I_ xs1, .ref 53] n (W0 dy) g 0 0 P := by
  have c1 := h.1
  have h := h.2
  refine v_putI 7 rfl fl12_152_11 (al 53 rfl hn) (wk53 dy) (by decide) rfl (wc53_0 dy) c1 ?_
  refine v_aload_n 8 0 rfl rfl rfl ?_
  refine v_gI 9 rfl fl12_152_11.r (al 53 rfl hn) (wk53 dy) (by decide) rfl (wc53_0 dy) (x := xs1) rfl ?_
  refine v_rng fun w2 => ?_
  have p3 : i3 (xs1) := rI w2 (q := 0) (al 53 rfl hn) (wk53 dy) rfl rfl
  refine v_if_le 10 rfl (tgt := 23) rfl p3 (fun q4 => ?_) (fun q4 => ?_)
  · have h := h.1 q4
    refine v_aload_n 13 0 rfl rfl rfl ?_
    refine v_iconst 14 rfl ?_
    refine v_putI 15 rfl fl12_381_11 (al 53 rfl hn) (wk53 dy) (by decide) rfl (wc53_29 dy) (by decide) ?_
    refine v_aload_n 16 0 rfl rfl rfl ?_
    refine v_iconst 17 rfl ?_
    refine v_putI 18 rfl fl12_393_11 (al 53 rfl hn) (wk53 dy) (by decide) rfl (wc53_57 dy) (by decide) ?_
    refine v_aload_n 19 0 rfl rfl rfl ?_
    refine v_iconst 20 rfl ?_
    refine v_iload_n 21 1 rfl rfl rfl ?_
    refine v_callV (st := []) [I_ 0, I_ x1] 22 rfl lv12_396_show_11 (al 53 rfl hn) (wk53 dy) (by decide) rfl (Nat.le_refl _) (Nat.le_refl _) ?_
    exact h
  · have h := h.2 q4
    refine v_iconst 11 rfl ?_
    exact v_ret (v := some (I_ ((-1)))) 12 rfl (Nat.zero_le _) (Nat.zero_le _) trivial rfl h
set_option maxHeartbeats 8000000 in
set_option maxRecDepth 4000 in
theorem bX12_show_39 {d n : Nat} {dy : Nat → Shp} {g : Hp} {P : Pst} {x1 : Int} (hn : 100 ≤ n) (h : (((g 53 57) ≤ 0) → P (some (I_ (g 53 29))) n (W0 dy) g) ∧ ((0 < (g 53 57)) → (i3 ((g 53 57) - 1)) ∧ (0 ≤ (g 53 57) - 1 ∧ (g 53 57) - 1 < 400) ∧ (((g 97 (((g 53 57) - 1).toNat)) < 0 ∨ 2 < (g 97 (((g 53 57) - 1).toNat))) → Runs miX12_put d [.ref 53, I_ (g 98 (((g 53 57) - 1).toNat))] n (W0 dy) (up2 g 53 57 ((g 53 57) - 1)) (fun v n' S' g' => V miX12_show (d + 1) 193 [(0, .ref 53), (1, I_ x1), (2, I_ (g 98 (((g 53 57) - 1).toNat)))] (v.toList ++ []) n' S' g' 0 0 P)) ∧ ((g 97 (((g 53 57) - 1).toNat)) = 0 → Runs miX12_showPart d [.ref 53, I_ (g 98 (((g 53 57) - 1).toNat))] n (W0 dy) (up2 g 53 57 ((g 53 57) - 1)) (fun v n' S' g' => V miX12_show (d + 1) 105 [(0, .ref 53), (1, I_ x1), (2, I_ (g 98 (((g 53 57) - 1).toNat)))] (v.toList ++ []) n' S' g' 0 0 P)) ∧ ((g 97 (((g 53 57) - 1).toNat)) = 1 → ((0 ≤ (g 98 (((g 53 57) - 1).toNat))) → (0 ≤ g 98 (((g 53 57) - 1).toNat) ∧ g 98 (((g 53 57) - 1).toNat) < 60) ∧ Runs miX12_putNumber d [.ref 53, L_ (g 62 ((g 98 (((g 53 57) - 1).toNat)).toNat))] n (W0 dy) (up2 g 53 57 ((g 53 57) - 1)) (fun v n' S' g' => V miX12_show (d + 1) 132 [(0, .ref 53), (1, I_ x1), (2, I_ (g 98 (((g 53 57) - 1).toNat)))] (v.toList ++ []) n' S' g' 0 0 P)) ∧ (((g 98 (((g 53 57) - 1).toNat)) < 0) → Runs miX12_put d [.ref 53, I_ 45] n (W0 dy) (up2 g 53 57 ((g 53 57) - 1)) (fun v n' S' g' => V miX12_show (d + 1) 118 [(0, .ref 53), (1, I_ x1), (2, I_ (g 98 (((g 53 57) - 1).toNat)))] (v.toList ++ []) n' S' g' 0 0 P))) ∧ ((g 97 (((g 53 57) - 1).toNat)) = 2 → Runs miX12_put d [.ref 53, I_ 44] n (W0 dy) (up2 g 53 57 ((g 53 57) - 1)) (fun v n' S' g' => V miX12_show (d + 1) 153 [(0, .ref 53), (1, I_ x1), (2, I_ (g 98 (((g 53 57) - 1).toNat)))] (v.toList ++ []) n' S' g' 0 0 P)))) : V miX12_show (d + 1) 39 [(0, .ref 53), (1, I_ x1)] [] n (W0 dy) g 0 0 P := by
  refine v_aload_n 23 0 rfl rfl rfl ?_
  refine v_gI 24 rfl fl12_393_11.r (al 53 rfl hn) (wk53 dy) (by decide) rfl (wc53_57 dy) (x := g 53 57) rfl ?_
  refine v_rng fun w1 => ?_
  have p2 : i3 (g 53 57) := rI w1 (q := 57) (al 53 rfl hn) (wk53 dy) rfl rfl
  refine v_if_le 25 rfl (tgt := 196) rfl p2 (fun q3 => ?_) (fun q3 => ?_)
  · have h := h.1 q3
    refine v_aload_n 95 0 rfl rfl rfl ?_
    refine v_gI 96 rfl fl12_381_11.r (al 53 rfl hn) (wk53 dy) (by decide) rfl (wc53_29 dy) (x := g 53 29) rfl ?_
    refine v_rng fun w4 => ?_
    have p5 : i3 (g 53 29) := rI w4 (q := 29) (al 53 rfl hn) (wk53 dy) rfl rfl
    exact v_ret (v := some (I_ (g 53 29))) 97 rfl (Nat.zero_le _) (Nat.zero_le _) trivial rfl h
  · have h := h.2 q3
    refine v_aload_n 26 0 rfl rfl rfl ?_
    refine v_dup 27 rfl (by intro h; cases h) ?_
    refine v_gI 28 rfl fl12_393_11.r (al 53 rfl hn) (wk53 dy) (by decide) rfl (wc53_57 dy) (x := g 53 57) rfl ?_
    refine v_rng fun w6 => ?_
    have p7 : i3 (g 53 57) := rI w6 (q := 57) (al 53 rfl hn) (wk53 dy) rfl rfl
    refine v_iconst 29 rfl ?_
    refine v_isub 30 rfl ?_
    have c8 := h.1
    have h := h.2
    refine v_putI 31 rfl fl12_393_11 (al 53 rfl hn) (wk53 dy) (by decide) rfl (wc53_57 dy) c8 ?_
    refine v_aload_n 32 0 rfl rfl rfl ?_
    refine v_gK 33 rfl fl12_145_11.r (al 53 rfl hn) (wk53 dy) (by decide) rfl (r := 98) (wc53_56 dy) ?_
    refine v_aload_n 34 0 rfl rfl rfl ?_
    refine v_gI 35 rfl fl12_393_11.r (al 53 rfl hn) (wk53 dy) (by decide) rfl (wc53_57 dy) (x := (g 53 57) - 1) rfl ?_
    refine v_rng fun w9 => ?_
    have p10 : i3 ((g 53 57) - 1) := rI w9 (q := 57) (al 53 rfl hn) (wk53 dy) rfl rfl
    have c11 := h.1
    have h := h.2
    refine v_ia (N := 400) 36 rfl (al 98 rfl hn) (wk98 dy) (wn98 dy) (by decide) c11 (y := g 98 (((g 53 57) - 1).toNat)) rfl ?_
    refine v_rng fun w12 => ?_
    have p13 : i3 (g 98 (((g 53 57) - 1).toNat)) := rI w12 (q := (((g 53 57) - 1).toNat)) (al 98 rfl hn) (wk98 dy) rfl rfl
    refine v_istore_n 37 [1, 2, 0] rfl rfl (by decide) rfl ?_
    refine v_aload_n 38 0 rfl rfl rfl ?_
    refine v_gK 39 rfl fl12_142_11.r (al 53 rfl hn) (wk53 dy) (by decide) rfl (r := 97) (wc53_55 dy) ?_
    refine v_aload_n 40 0 rfl rfl rfl ?_
    refine v_gI 41 rfl fl12_393_11.r (al 53 rfl hn) (wk53 dy) (by decide) rfl (wc53_57 dy) (x := (g 53 57) - 1) rfl ?_
    refine v_rng fun w14 => ?_
    have p15 : i3 ((g 53 57) - 1) := rI w14 (q := 57) (al 53 rfl hn) (wk53 dy) rfl rfl
    refine v_ia (N := 400) 42 rfl (al 97 rfl hn) (wk97 dy) (wn97 dy) (by decide) c11 (y := g 97 (((g 53 57) - 1).toNat)) rfl ?_
    refine v_rng fun w16 => ?_
    have p17 : i3 (g 97 (((g 53 57) - 1).toNat)) := rI w16 (q := (((g 53 57) - 1).toNat)) (al 97 rfl hn) (wk97 dy) rfl rfl
    by_cases q22 : (g 97 (((g 53 57) - 1).toNat)) < 0 ∨ 2 < (g 97 (((g 53 57) - 1).toNat))
    · have h := h.1 q22
      refine v_tswOut 43 rfl p17 q22 (tgt := 188) rfl ?_
      refine v_aload_n 91 0 rfl rfl rfl ?_
      refine v_iload_n 92 2 rfl rfl rfl ?_
      refine v_callV (st := []) [I_ (g 98 (((g 53 57) - 1).toNat))] 93 rfl lv12_390_show_11 (al 53 rfl hn) (wk53 dy) (by decide) rfl (Nat.le_refl _) (Nat.le_refl _) ?_
      exact h
    by_cases q22_0 : (g 97 (((g 53 57) - 1).toNat)) = 0
    · have h := h.2.1 q22_0
      refine v_tswIn 43 rfl p17 (by omega) (by omega) (off := 25) (tgt := 100) (by rw [q22_0]; rfl) rfl ?_
      refine v_aload_n 44 0 rfl rfl rfl ?_
      refine v_iload_n 45 2 rfl rfl rfl ?_
      refine v_callV (st := []) [I_ (g 98 (((g 53 57) - 1).toNat))] 46 rfl lv12_400_show_11 (al 53 rfl hn) (wk53 dy) (by decide) rfl (Nat.le_refl _) (Nat.le_refl _) ?_
      exact h
    by_cases q22_1 : (g 97 (((g 53 57) - 1).toNat)) = 1
    · have h := h.2.2.1 q22_1
      refine v_tswIn 43 rfl p17 (by omega) (by omega) (off := 33) (tgt := 108) (by rw [q22_1]; rfl) rfl ?_
      refine v_iload_n 48 2 rfl rfl rfl ?_
      refine v_if_ge 49 rfl (tgt := 121) rfl p13 (fun q18 => ?_) (fun q18 => ?_)
      · have h := h.1 q18
        refine v_aload_n 54 0 rfl rfl rfl ?_
        refine v_aload_n 55 0 rfl rfl rfl ?_
        refine v_gK 56 rfl fl12_35_11.r (al 53 rfl hn) (wk53 dy) (by decide) rfl (r := 62) (wc53_11 dy) ?_
        refine v_iload_n 57 2 rfl rfl rfl ?_
        have c19 := h.1
        have h := h.2
        refine v_ia (N := 60) 58 rfl (al 62 rfl hn) (wk62 dy) (wn62 dy) (by decide) c19 (y := g 62 ((g 98 (((g 53 57) - 1).toNat)).toNat)) rfl ?_
        refine v_rng fun w20 => ?_
        have p21 : i3 (g 62 ((g 98 (((g 53 57) - 1).toNat)).toNat)) := rI w20 (q := ((g 98 (((g 53 57) - 1).toNat)).toNat)) (al 62 rfl hn) (wk62 dy) rfl rfl
        refine v_i2l 59 rfl p21 ?_
        refine v_callV (st := []) [L_ (g 62 ((g 98 (((g 53 57) - 1).toNat)).toNat))] 60 rfl lv12_403_show_11 (al 53 rfl hn) (wk53 dy) (by decide) rfl (Nat.le_refl _) (Nat.le_refl _) ?_
        exact h
      · have h := h.2 q18
        refine v_aload_n 50 0 rfl rfl rfl ?_
        refine v_bipush 51 rfl (by decide) ?_
        refine v_callV (st := []) [I_ 45] 52 rfl lv12_390_show_11 (al 53 rfl hn) (wk53 dy) (by decide) rfl (Nat.le_refl _) (Nat.le_refl _) ?_
        exact h
    by_cases q22_2 : (g 97 (((g 53 57) - 1).toNat)) = 2
    · have h := h.2.2.2 q22_2
      refine v_tswIn 43 rfl p17 (by omega) (by omega) (off := 72) (tgt := 147) (by rw [q22_2]; rfl) rfl ?_
      refine v_aload_n 69 0 rfl rfl rfl ?_
      refine v_bipush 70 rfl (by decide) ?_
      refine v_callV (st := []) [I_ 44] 71 rfl lv12_390_show_11 (al 53 rfl hn) (wk53 dy) (by decide) rfl (Nat.le_refl _) (Nat.le_refl _) ?_
      exact h
    exfalso; omega
set_option maxHeartbeats 8000000 in
set_option maxRecDepth 4000 in
theorem bX12_show_105 {d n : Nat} {dy : Nat → Shp} {g : Hp} {P : Pst} {x1 : Int} {x2 : Int} (hn : 100 ≤ n) (h : V miX12_show (d + 1) 193 [(0, .ref 53), (1, I_ x1), (2, I_ x2)] [] n (W0 dy) g 0 0 P) : V miX12_show (d + 1) 105 [(0, .ref 53), (1, I_ x1), (2, I_ x2)] [] n (W0 dy) g 0 0 P := by
  refine v_goto 47 rfl (tgt := 193) rfl ?_
  exact h
set_option maxHeartbeats 8000000 in
set_option maxRecDepth 4000 in
theorem bX12_show_118 {d n : Nat} {dy : Nat → Shp} {g : Hp} {P : Pst} {x1 : Int} {x2 : Int} (hn : 100 ≤ n) (h : V miX12_show (d + 1) 193 [(0, .ref 53), (1, I_ x1), (2, I_ x2)] [] n (W0 dy) g 0 0 P) : V miX12_show (d + 1) 118 [(0, .ref 53), (1, I_ x1), (2, I_ x2)] [] n (W0 dy) g 0 0 P := by
  refine v_goto 53 rfl (tgt := 193) rfl ?_
  exact h
set_option maxHeartbeats 8000000 in
set_option maxRecDepth 4000 in
theorem bX12_show_132 {d n : Nat} {dy : Nat → Shp} {g : Hp} {P : Pst} {x1 : Int} {x2 : Int} (hn : 100 ≤ n) (h : Runs miX12_put d [.ref 53, I_ 58] n (W0 dy) g (fun v n' S' g' => V miX12_show (d + 1) 138 [(0, .ref 53), (1, I_ x1), (2, I_ x2)] (v.toList ++ []) n' S' g' 0 0 P)) : V miX12_show (d + 1) 132 [(0, .ref 53), (1, I_ x1), (2, I_ x2)] [] n (W0 dy) g 0 0 P := by
  refine v_aload_n 61 0 rfl rfl rfl ?_
  refine v_bipush 62 rfl (by decide) ?_
  refine v_callV (st := []) [I_ 58] 63 rfl lv12_390_show_11 (al 53 rfl hn) (wk53 dy) (by decide) rfl (Nat.le_refl _) (Nat.le_refl _) ?_
  exact h
set_option maxHeartbeats 8000000 in
set_option maxRecDepth 4000 in
theorem bX12_show_138 {d n : Nat} {dy : Nat → Shp} {g : Hp} {P : Pst} {x1 : Int} {x2 : Int} (hn : 100 ≤ n) (h : Runs miX12_later d [.ref 53, I_ 0, I_ x2] n (W0 dy) g (fun v n' S' g' => V miX12_show (d + 1) 144 [(0, .ref 53), (1, I_ x1), (2, I_ x2)] (v.toList ++ []) n' S' g' 0 0 P)) : V miX12_show (d + 1) 138 [(0, .ref 53), (1, I_ x1), (2, I_ x2)] [] n (W0 dy) g 0 0 P := by
  refine v_aload_n 64 0 rfl rfl rfl ?_
  refine v_iconst 65 rfl ?_
  refine v_iload_n 66 2 rfl rfl rfl ?_
  refine v_callV (st := []) [I_ 0, I_ x2] 67 rfl lv12_396_show_11 (al 53 rfl hn) (wk53 dy) (by decide) rfl (Nat.le_refl _) (Nat.le_refl _) ?_
  exact h
set_option maxHeartbeats 8000000 in
set_option maxRecDepth 4000 in
theorem bX12_show_144 {d n : Nat} {dy : Nat → Shp} {g : Hp} {P : Pst} {x1 : Int} {x2 : Int} (hn : 100 ≤ n) (h : V miX12_show (d + 1) 193 [(0, .ref 53), (1, I_ x1), (2, I_ x2)] [] n (W0 dy) g 0 0 P) : V miX12_show (d + 1) 144 [(0, .ref 53), (1, I_ x1), (2, I_ x2)] [] n (W0 dy) g 0 0 P := by
  refine v_goto 68 rfl (tgt := 193) rfl ?_
  exact h
set_option maxHeartbeats 8000000 in
set_option maxRecDepth 4000 in
theorem bX12_show_153 {d n : Nat} {dy : Nat → Shp} {g : Hp} {P : Pst} {x1 : Int} {x2 : Int} (hn : 100 ≤ n) (h : (0 ≤ x2 ∧ x2 < 60) ∧ Runs miX12_putNumber d [.ref 53, L_ (g 64 x2.toNat)] n (W0 dy) g (fun v n' S' g' => V miX12_show (d + 1) 163 [(0, .ref 53), (1, I_ x1), (2, I_ x2)] (v.toList ++ []) n' S' g' 0 0 P)) : V miX12_show (d + 1) 153 [(0, .ref 53), (1, I_ x1), (2, I_ x2)] [] n (W0 dy) g 0 0 P := by
  refine v_aload_n 72 0 rfl rfl rfl ?_
  refine v_aload_n 73 0 rfl rfl rfl ?_
  refine v_gK 74 rfl fl12_41_11.r (al 53 rfl hn) (wk53 dy) (by decide) rfl (r := 64) (wc53_13 dy) ?_
  refine v_iload_n 75 2 rfl rfl rfl ?_
  have c1 := h.1
  have h := h.2
  refine v_la (N := 60) 76 rfl (al 64 rfl hn) (wk64 dy) (wn64 dy) (by decide) c1 (y := g 64 x2.toNat) rfl ?_
  refine v_rng fun w2 => ?_
  have p3 : i6 (g 64 x2.toNat) := rL w2 (q := x2.toNat) (al 64 rfl hn) (wk64 dy) rfl rfl
  refine v_callV (st := []) [L_ (g 64 x2.toNat)] 77 rfl lv12_403_show_11 (al 53 rfl hn) (wk53 dy) (by decide) rfl (Nat.le_refl _) (Nat.le_refl _) ?_
  exact h
set_option maxHeartbeats 8000000 in
set_option maxRecDepth 4000 in
theorem bX12_show_163 {d n : Nat} {dy : Nat → Shp} {g : Hp} {P : Pst} {x1 : Int} {x2 : Int} (hn : 100 ≤ n) (h : Runs miX12_put d [.ref 53, I_ 47] n (W0 dy) g (fun v n' S' g' => V miX12_show (d + 1) 169 [(0, .ref 53), (1, I_ x1), (2, I_ x2)] (v.toList ++ []) n' S' g' 0 0 P)) : V miX12_show (d + 1) 163 [(0, .ref 53), (1, I_ x1), (2, I_ x2)] [] n (W0 dy) g 0 0 P := by
  refine v_aload_n 78 0 rfl rfl rfl ?_
  refine v_bipush 79 rfl (by decide) ?_
  refine v_callV (st := []) [I_ 47] 80 rfl lv12_390_show_11 (al 53 rfl hn) (wk53 dy) (by decide) rfl (Nat.le_refl _) (Nat.le_refl _) ?_
  exact h
set_option maxHeartbeats 8000000 in
set_option maxRecDepth 4000 in
theorem bX12_show_169 {d n : Nat} {dy : Nat → Shp} {g : Hp} {P : Pst} {x1 : Int} {x2 : Int} (hn : 100 ≤ n) (h : (0 ≤ x2 ∧ x2 < 60) ∧ Runs miX12_putNumber d [.ref 53, L_ (g 65 x2.toNat)] n (W0 dy) g (fun v n' S' g' => V miX12_show (d + 1) 179 [(0, .ref 53), (1, I_ x1), (2, I_ x2)] (v.toList ++ []) n' S' g' 0 0 P)) : V miX12_show (d + 1) 169 [(0, .ref 53), (1, I_ x1), (2, I_ x2)] [] n (W0 dy) g 0 0 P := by
  refine v_aload_n 81 0 rfl rfl rfl ?_
  refine v_aload_n 82 0 rfl rfl rfl ?_
  refine v_gK 83 rfl fl12_44_11.r (al 53 rfl hn) (wk53 dy) (by decide) rfl (r := 65) (wc53_14 dy) ?_
  refine v_iload_n 84 2 rfl rfl rfl ?_
  have c1 := h.1
  have h := h.2
  refine v_la (N := 60) 85 rfl (al 65 rfl hn) (wk65 dy) (wn65 dy) (by decide) c1 (y := g 65 x2.toNat) rfl ?_
  refine v_rng fun w2 => ?_
  have p3 : i6 (g 65 x2.toNat) := rL w2 (q := x2.toNat) (al 65 rfl hn) (wk65 dy) rfl rfl
  refine v_callV (st := []) [L_ (g 65 x2.toNat)] 86 rfl lv12_403_show_11 (al 53 rfl hn) (wk53 dy) (by decide) rfl (Nat.le_refl _) (Nat.le_refl _) ?_
  exact h
set_option maxHeartbeats 8000000 in
set_option maxRecDepth 4000 in
theorem bX12_show_179 {d n : Nat} {dy : Nat → Shp} {g : Hp} {P : Pst} {x1 : Int} {x2 : Int} (hn : 100 ≤ n) (h : Runs miX12_put d [.ref 53, I_ 44] n (W0 dy) g (fun v n' S' g' => V miX12_show (d + 1) 185 [(0, .ref 53), (1, I_ x1), (2, I_ x2)] (v.toList ++ []) n' S' g' 0 0 P)) : V miX12_show (d + 1) 179 [(0, .ref 53), (1, I_ x1), (2, I_ x2)] [] n (W0 dy) g 0 0 P := by
  refine v_aload_n 87 0 rfl rfl rfl ?_
  refine v_bipush 88 rfl (by decide) ?_
  refine v_callV (st := []) [I_ 44] 89 rfl lv12_390_show_11 (al 53 rfl hn) (wk53 dy) (by decide) rfl (Nat.le_refl _) (Nat.le_refl _) ?_
  exact h
set_option maxHeartbeats 8000000 in
set_option maxRecDepth 4000 in
theorem bX12_show_185 {d n : Nat} {dy : Nat → Shp} {g : Hp} {P : Pst} {x1 : Int} {x2 : Int} (hn : 100 ≤ n) (h : V miX12_show (d + 1) 193 [(0, .ref 53), (1, I_ x1), (2, I_ x2)] [] n (W0 dy) g 0 0 P) : V miX12_show (d + 1) 185 [(0, .ref 53), (1, I_ x1), (2, I_ x2)] [] n (W0 dy) g 0 0 P := by
  refine v_goto 90 rfl (tgt := 193) rfl ?_
  exact h
set_option maxHeartbeats 8000000 in
set_option maxRecDepth 4000 in
theorem bX12_show_193 {d n : Nat} {dy : Nat → Shp} {g : Hp} {P : Pst} {x1 : Int} {x2 : Int} (hn : 100 ≤ n) (h : V miX12_show (d + 1) 39 [(0, .ref 53), (1, I_ x1)] [] n (W0 dy) g 0 0 P) : V miX12_show (d + 1) 193 [(0, .ref 53), (1, I_ x1), (2, I_ x2)] [] n (W0 dy) g 0 0 P := by
  refine v_goto 94 rfl (tgt := 39) rfl ?_
  refine v_loc [0, 1] rfl ?_
  exact h
theorem wX12_show {d n : Nat} {dy : Nat → Shp} {g : Hp} {P : Pst} {x1 : Int} (hn : 100 ≤ n) (h : Runs miX12_topped d [.ref 53, I_ x1] n (W0 dy) (up2 g 53 1 0) (fun v n' S' g' => V miX12_show (d + 1) 11 [(0, .ref 53), (1, I_ x1)] (v.toList ++ [.ref 53]) n' S' g' 0 0 P)) : Runs miX12_show (d + 1) [.ref 53, I_ x1] n (W0 dy) g P := Runs.of rfl rfl deX12_show (Nat.le_of_ble_eq_true rfl) (bX12_show_0 hn h)
theorem lv12_237_showPart_11 : LkV miX12_showPart miX12_isRod 237 1 11 := ⟨⟨⟨tbG_in (List.mem_append_right _ (List.mem_of_getElem? (i := 1428) (by decide +kernel))) rfl, tbG_in (List.mem_append_right _ (List.mem_of_getElem? (i := 9) (by decide +kernel))) rfl, tbG_in (List.mem_append_right _ (List.mem_of_getElem? (i := 1425) (by decide +kernel))) rfl⟩, ⟨by decide +kernel, by decide +kernel, by decide +kernel⟩, by decide⟩, tbG_in (List.mem_append_right _ (List.mem_of_getElem? (i := 1427) (by decide +kernel))) rfl, RX12, TX12, 58, rfl, tbG_in (List.mem_append_left _ (List.mem_of_getElem? (i := 60) (by decide +kernel))) rfl⟩
theorem lv12_390_showPart_11 : LkV miX12_showPart miX12_put 390 1 11 := ⟨⟨⟨tbG_in (List.mem_append_right _ (List.mem_of_getElem? (i := 1668) (by decide +kernel))) rfl, tbG_in (List.mem_append_right _ (List.mem_of_getElem? (i := 9) (by decide +kernel))) rfl, tbG_in (List.mem_append_right _ (List.mem_of_getElem? (i := 1665) (by decide +kernel))) rfl⟩, ⟨by decide +kernel, by decide +kernel, by decide +kernel⟩, by decide⟩, tbG_in (List.mem_append_right _ (List.mem_of_getElem? (i := 1667) (by decide +kernel))) rfl, RX12, TX12, 58, rfl, tbG_in (List.mem_append_left _ (List.mem_of_getElem? (i := 96) (by decide +kernel))) rfl⟩
theorem lv12_403_showPart_11 : LkV miX12_showPart miX12_putNumber 403 1 11 := ⟨⟨⟨tbG_in (List.mem_append_right _ (List.mem_of_getElem? (i := 1672) (by decide +kernel))) rfl, tbG_in (List.mem_append_right _ (List.mem_of_getElem? (i := 9) (by decide +kernel))) rfl, tbG_in (List.mem_append_right _ (List.mem_of_getElem? (i := 1669) (by decide +kernel))) rfl⟩, ⟨by decide +kernel, by decide +kernel, by decide +kernel⟩, by decide⟩, tbG_in (List.mem_append_right _ (List.mem_of_getElem? (i := 1671) (by decide +kernel))) rfl, RX12, TX12, 58, rfl, tbG_in (List.mem_append_left _ (List.mem_of_getElem? (i := 97) (by decide +kernel))) rfl⟩
theorem lv12_396_showPart_11 : LkV miX12_showPart miX12_later 396 2 11 := ⟨⟨⟨tbG_in (List.mem_append_right _ (List.mem_of_getElem? (i := 1660) (by decide +kernel))) rfl, tbG_in (List.mem_append_right _ (List.mem_of_getElem? (i := 9) (by decide +kernel))) rfl, tbG_in (List.mem_append_right _ (List.mem_of_getElem? (i := 1657) (by decide +kernel))) rfl⟩, ⟨by decide +kernel, by decide +kernel, by decide +kernel⟩, by decide⟩, tbG_in (List.mem_append_right _ (List.mem_of_getElem? (i := 1659) (by decide +kernel))) rfl, RX12, TX12, 58, rfl, tbG_in (List.mem_append_left _ (List.mem_of_getElem? (i := 94) (by decide +kernel))) rfl⟩
set_option maxHeartbeats 8000000 in
set_option maxRecDepth 4000 in
theorem bX12_showPart_0 {d n : Nat} {dy : Nat → Shp} {g : Hp} {P : Pst} {x1 : Int} (hn : 100 ≤ n) (h : Runs miX12_isRod d [.ref 53, I_ x1] n (W0 dy) g (fun v n' S' g' => V miX12_showPart (d + 1) 5 [(0, .ref 53), (1, I_ x1)] (v.toList ++ []) n' S' g' 0 0 P)) : V miX12_showPart (d + 1) 0 [(0, .ref 53), (1, I_ x1)] [] n (W0 dy) g 0 0 P := by
  refine v_aload_n 0 0 rfl rfl rfl ?_
  refine v_iload_n 1 1 rfl rfl rfl ?_
  refine v_callV (st := []) [I_ x1] 2 rfl lv12_237_showPart_11 (al 53 rfl hn) (wk53 dy) (by decide) rfl (Nat.le_refl _) (Nat.le_refl _) ?_
  exact h
set_option maxHeartbeats 8000000 in
set_option maxRecDepth 4000 in
theorem bX12_showPart_5 {d n : Nat} {dy : Nat → Shp} {g : Hp} {P : Pst} {x1 : Int} {xs0 : Int} (hn : 100 ≤ n) (h : (i3 xs0) ∧ ((xs0 ≠ 0) → Runs miX12_put d [.ref 53, I_ 40] n (W0 dy) g (fun v n' S' g' => V miX12_showPart (d + 1) 41 [(0, .ref 53), (1, I_ x1)] (v.toList ++ []) n' S' g' 0 0 P)) ∧ ((xs0 = 0) → (0 ≤ x1 ∧ x1 < 60) ∧ (((g 57 x1.toNat) ≠ 4) → V miX12_showPart (d + 1) 24 [(0, .ref 53), (1, I_ x1)] [] n (W0 dy) g 0 0 P) ∧ (((g 57 x1.toNat) = 4) → Runs miX12_put d [.ref 53, I_ 112] n (W0 dy) g (fun v n' S' g' => V miX12_showPart (d + 1) 24 [(0, .ref 53), (1, I_ x1)] (v.toList ++ []) n' S' g' 0 0 P)))) : V miX12_showPart (d + 1) 5 [(0, .ref 53), (1, I_ x1)] [I_ xs0] n (W0 dy) g 0 0 P := by
  have c1 := h.1
  have h := h.2
  refine v_if_ne 3 rfl (tgt := 35) rfl c1 (fun q2 => ?_) (fun q2 => ?_)
  · have h := h.1 q2
    refine v_aload_n 20 0 rfl rfl rfl ?_
    refine v_bipush 21 rfl (by decide) ?_
    refine v_callV (st := []) [I_ 40] 22 rfl lv12_390_showPart_11 (al 53 rfl hn) (wk53 dy) (by decide) rfl (Nat.le_refl _) (Nat.le_refl _) ?_
    exact h
  · have h := h.2 q2
    refine v_aload_n 4 0 rfl rfl rfl ?_
    refine v_gK 5 rfl fl12_20_11.r (al 53 rfl hn) (wk53 dy) (by decide) rfl (r := 57) (wc53_6 dy) ?_
    refine v_iload_n 6 1 rfl rfl rfl ?_
    have c3 := h.1
    have h := h.2
    refine v_ia (N := 60) 7 rfl (al 57 rfl hn) (wk57 dy) (wn57 dy) (by decide) c3 (y := g 57 x1.toNat) rfl ?_
    refine v_rng fun w4 => ?_
    have p5 : i3 (g 57 x1.toNat) := rI w4 (q := x1.toNat) (al 57 rfl hn) (wk57 dy) rfl rfl
    refine v_iconst 8 rfl ?_
    refine v_icmp_ne 9 rfl (tgt := 24) rfl p5 (by decide) (fun q6 => ?_) (fun q6 => ?_)
    · have h := h.1 q6
      exact h
    · have h := h.2 q6
      refine v_aload_n 10 0 rfl rfl rfl ?_
      refine v_bipush 11 rfl (by decide) ?_
      refine v_callV (st := []) [I_ 112] 12 rfl lv12_390_showPart_11 (al 53 rfl hn) (wk53 dy) (by decide) rfl (Nat.le_refl _) (Nat.le_refl _) ?_
      exact h
set_option maxHeartbeats 8000000 in
set_option maxRecDepth 4000 in
theorem bX12_showPart_24 {d n : Nat} {dy : Nat → Shp} {g : Hp} {P : Pst} {x1 : Int} (hn : 100 ≤ n) (h : (0 ≤ x1 ∧ x1 < 60) ∧ Runs miX12_putNumber d [.ref 53, L_ (g 63 x1.toNat)] n (W0 dy) g (fun v n' S' g' => V miX12_showPart (d + 1) 34 [(0, .ref 53), (1, I_ x1)] (v.toList ++ []) n' S' g' 0 0 P)) : V miX12_showPart (d + 1) 24 [(0, .ref 53), (1, I_ x1)] [] n (W0 dy) g 0 0 P := by
  refine v_aload_n 13 0 rfl rfl rfl ?_
  refine v_aload_n 14 0 rfl rfl rfl ?_
  refine v_gK 15 rfl fl12_38_11.r (al 53 rfl hn) (wk53 dy) (by decide) rfl (r := 63) (wc53_12 dy) ?_
  refine v_iload_n 16 1 rfl rfl rfl ?_
  have c1 := h.1
  have h := h.2
  refine v_la (N := 60) 17 rfl (al 63 rfl hn) (wk63 dy) (wn63 dy) (by decide) c1 (y := g 63 x1.toNat) rfl ?_
  refine v_rng fun w2 => ?_
  have p3 : i6 (g 63 x1.toNat) := rL w2 (q := x1.toNat) (al 63 rfl hn) (wk63 dy) rfl rfl
  refine v_callV (st := []) [L_ (g 63 x1.toNat)] 18 rfl lv12_403_showPart_11 (al 53 rfl hn) (wk53 dy) (by decide) rfl (Nat.le_refl _) (Nat.le_refl _) ?_
  exact h
set_option maxHeartbeats 8000000 in
set_option maxRecDepth 4000 in
theorem bX12_showPart_34 {d n : Nat} {dy : Nat → Shp} {g : Hp} {P : Pst} {x1 : Int} (hn : 100 ≤ n) (h : P none n (W0 dy) g) : V miX12_showPart (d + 1) 34 [(0, .ref 53), (1, I_ x1)] [] n (W0 dy) g 0 0 P := by
  exact v_ret (v := none) 19 rfl (Nat.zero_le _) (Nat.zero_le _) trivial rfl h
set_option maxHeartbeats 8000000 in
set_option maxRecDepth 4000 in
theorem bX12_showPart_41 {d n : Nat} {dy : Nat → Shp} {g : Hp} {P : Pst} {x1 : Int} (hn : 100 ≤ n) (h : Runs miX12_later d [.ref 53, I_ 3, I_ 41] n (W0 dy) g (fun v n' S' g' => V miX12_showPart (d + 1) 48 [(0, .ref 53), (1, I_ x1)] (v.toList ++ []) n' S' g' 0 0 P)) : V miX12_showPart (d + 1) 41 [(0, .ref 53), (1, I_ x1)] [] n (W0 dy) g 0 0 P := by
  refine v_aload_n 23 0 rfl rfl rfl ?_
  refine v_iconst 24 rfl ?_
  refine v_bipush 25 rfl (by decide) ?_
  refine v_callV (st := []) [I_ 3, I_ 41] 26 rfl lv12_396_showPart_11 (al 53 rfl hn) (wk53 dy) (by decide) rfl (Nat.le_refl _) (Nat.le_refl _) ?_
  exact h
set_option maxHeartbeats 8000000 in
set_option maxRecDepth 4000 in
theorem bX12_showPart_48 {d n : Nat} {dy : Nat → Shp} {g : Hp} {P : Pst} {x1 : Int} (hn : 100 ≤ n) (h : (0 ≤ x1 ∧ x1 < 60) ∧ Runs miX12_later d [.ref 53, I_ 1, I_ (g 67 x1.toNat)] n (W0 dy) g (fun v n' S' g' => V miX12_showPart (d + 1) 59 [(0, .ref 53), (1, I_ x1)] (v.toList ++ []) n' S' g' 0 0 P)) : V miX12_showPart (d + 1) 48 [(0, .ref 53), (1, I_ x1)] [] n (W0 dy) g 0 0 P := by
  refine v_aload_n 27 0 rfl rfl rfl ?_
  refine v_iconst 28 rfl ?_
  refine v_aload_n 29 0 rfl rfl rfl ?_
  refine v_gK 30 rfl fl12_50_11.r (al 53 rfl hn) (wk53 dy) (by decide) rfl (r := 67) (wc53_16 dy) ?_
  refine v_iload_n 31 1 rfl rfl rfl ?_
  have c1 := h.1
  have h := h.2
  refine v_ia (N := 60) 32 rfl (al 67 rfl hn) (wk67 dy) (wn67 dy) (by decide) c1 (y := g 67 x1.toNat) rfl ?_
  refine v_rng fun w2 => ?_
  have p3 : i3 (g 67 x1.toNat) := rI w2 (q := x1.toNat) (al 67 rfl hn) (wk67 dy) rfl rfl
  refine v_callV (st := []) [I_ 1, I_ (g 67 x1.toNat)] 33 rfl lv12_396_showPart_11 (al 53 rfl hn) (wk53 dy) (by decide) rfl (Nat.le_refl _) (Nat.le_refl _) ?_
  exact h
set_option maxHeartbeats 8000000 in
set_option maxRecDepth 4000 in
theorem bX12_showPart_59 {d n : Nat} {dy : Nat → Shp} {g : Hp} {P : Pst} {x1 : Int} (hn : 100 ≤ n) (h : Runs miX12_later d [.ref 53, I_ 2, I_ x1] n (W0 dy) g (fun v n' S' g' => V miX12_showPart (d + 1) 65 [(0, .ref 53), (1, I_ x1)] (v.toList ++ []) n' S' g' 0 0 P)) : V miX12_showPart (d + 1) 59 [(0, .ref 53), (1, I_ x1)] [] n (W0 dy) g 0 0 P := by
  refine v_aload_n 34 0 rfl rfl rfl ?_
  refine v_iconst 35 rfl ?_
  refine v_iload_n 36 1 rfl rfl rfl ?_
  refine v_callV (st := []) [I_ 2, I_ x1] 37 rfl lv12_396_showPart_11 (al 53 rfl hn) (wk53 dy) (by decide) rfl (Nat.le_refl _) (Nat.le_refl _) ?_
  exact h
set_option maxHeartbeats 8000000 in
set_option maxRecDepth 4000 in
theorem bX12_showPart_65 {d n : Nat} {dy : Nat → Shp} {g : Hp} {P : Pst} {x1 : Int} (hn : 100 ≤ n) (h : (0 ≤ x1 ∧ x1 < 60) ∧ Runs miX12_later d [.ref 53, I_ 1, I_ (g 66 x1.toNat)] n (W0 dy) g (fun v n' S' g' => V miX12_showPart (d + 1) 76 [(0, .ref 53), (1, I_ x1)] (v.toList ++ []) n' S' g' 0 0 P)) : V miX12_showPart (d + 1) 65 [(0, .ref 53), (1, I_ x1)] [] n (W0 dy) g 0 0 P := by
  refine v_aload_n 38 0 rfl rfl rfl ?_
  refine v_iconst 39 rfl ?_
  refine v_aload_n 40 0 rfl rfl rfl ?_
  refine v_gK 41 rfl fl12_47_11.r (al 53 rfl hn) (wk53 dy) (by decide) rfl (r := 66) (wc53_15 dy) ?_
  refine v_iload_n 42 1 rfl rfl rfl ?_
  have c1 := h.1
  have h := h.2
  refine v_ia (N := 60) 43 rfl (al 66 rfl hn) (wk66 dy) (wn66 dy) (by decide) c1 (y := g 66 x1.toNat) rfl ?_
  refine v_rng fun w2 => ?_
  have p3 : i3 (g 66 x1.toNat) := rI w2 (q := x1.toNat) (al 66 rfl hn) (wk66 dy) rfl rfl
  refine v_callV (st := []) [I_ 1, I_ (g 66 x1.toNat)] 44 rfl lv12_396_showPart_11 (al 53 rfl hn) (wk53 dy) (by decide) rfl (Nat.le_refl _) (Nat.le_refl _) ?_
  exact h
set_option maxHeartbeats 8000000 in
set_option maxRecDepth 4000 in
theorem bX12_showPart_76 {d n : Nat} {dy : Nat → Shp} {g : Hp} {P : Pst} {x1 : Int} (hn : 100 ≤ n) (h : P none n (W0 dy) g) : V miX12_showPart (d + 1) 76 [(0, .ref 53), (1, I_ x1)] [] n (W0 dy) g 0 0 P := by
  exact v_ret (v := none) 45 rfl (Nat.zero_le _) (Nat.zero_le _) trivial rfl h
theorem wX12_showPart {d n : Nat} {dy : Nat → Shp} {g : Hp} {P : Pst} {x1 : Int} (hn : 100 ≤ n) (h : Runs miX12_isRod d [.ref 53, I_ x1] n (W0 dy) g (fun v n' S' g' => V miX12_showPart (d + 1) 5 [(0, .ref 53), (1, I_ x1)] (v.toList ++ []) n' S' g' 0 0 P)) : Runs miX12_showPart (d + 1) [.ref 53, I_ x1] n (W0 dy) g P := Runs.of rfl rfl deX12_showPart (Nat.le_of_ble_eq_true rfl) (bX12_showPart_0 hn h)
theorem lm12_188_out : LkM miX12_out 188 Lib.Math.min.name Lib.Math.min.code 2 .int := ⟨tbG_in (List.mem_append_right _ (List.mem_of_getElem? (i := 1379) (by decide +kernel))) rfl, tbG_in (List.mem_append_right _ (List.mem_of_getElem? (i := 500) (by decide +kernel))) rfl, tbG_in (List.mem_append_right _ (List.mem_of_getElem? (i := 15) (by decide +kernel))) rfl, tbG_in (List.mem_append_right _ (List.mem_of_getElem? (i := 501) (by decide +kernel))) rfl⟩
set_option maxHeartbeats 8000000 in
set_option maxRecDepth 4000 in
theorem bX12_out_0 {d n : Nat} {dy : Nat → Shp} {g : Hp} {P : Pst} {x1 : Int} (hn : 100 ≤ n) (h : (i3 x1) ∧ ((x1 < 0) → P (some (I_ 0)) n (W0 dy) (up2 (up2 g 53 1 0) 53 1 1)) ∧ ((0 ≤ x1) → ((x1 < (min (g 53 29) 600)) → (0 ≤ x1 ∧ x1 < 600) ∧ P (some (I_ (g 78 x1.toNat))) n (W0 dy) (up2 g 53 1 0)) ∧ (((min (g 53 29) 600) ≤ x1) → P (some (I_ 0)) n (W0 dy) (up2 (up2 g 53 1 0) 53 1 1)))) : V miX12_out (d + 1) 0 [(0, .ref 53), (1, I_ x1)] [] n (W0 dy) g 0 0 P := by
  refine v_aload_n 0 0 rfl rfl rfl ?_
  refine v_iconst 1 rfl ?_
  refine v_putI 2 rfl fl12_148_11 (al 53 rfl hn) (wk53 dy) (by decide) rfl (wc53_1 dy) (by decide) ?_
  refine v_iload_n 3 1 rfl rfl rfl ?_
  have c1 := h.1
  have h := h.2
  refine v_if_lt 4 rfl (tgt := 23) rfl c1 (fun q2 => ?_) (fun q2 => ?_)
  · have h := h.1 q2
    refine v_aload_n 11 0 rfl rfl rfl ?_
    refine v_iconst 12 rfl ?_
    refine v_putI 13 rfl fl12_148_11 (al 53 rfl hn) (wk53 dy) (by decide) rfl (wc53_1 dy) (by decide) ?_
    refine v_iconst 14 rfl ?_
    exact v_ret (v := some (I_ 0)) 15 rfl (Nat.zero_le _) (Nat.zero_le _) trivial rfl h
  · have h := h.2 q2
    refine v_iload_n 5 1 rfl rfl rfl ?_
    refine v_aload_n 6 0 rfl rfl rfl ?_
    refine v_gI 7 rfl fl12_381_11.r (al 53 rfl hn) (wk53 dy) (by decide) rfl (wc53_29 dy) (x := g 53 29) rfl ?_
    refine v_rng fun w3 => ?_
    have p4 : i3 (g 53 29) := rI w3 (q := 29) (al 53 rfl hn) (wk53 dy) rfl rfl
    refine v_sipush 8 rfl (by decide) ?_
    refine v_mmin (st := [I_ x1]) 9 rfl lm12_188_out rfl (Nat.zero_le _) (Nat.zero_le _) p4 (by decide) ?_
    refine v_icmp_lt 10 rfl (tgt := 30) rfl c1 (min_i3 p4 (by decide)) (fun q5 => ?_) (fun q5 => ?_)
    · have h := h.1 q5
      refine v_aload_n 16 0 rfl rfl rfl ?_
      refine v_gK 17 rfl fl12_84_11.r (al 53 rfl hn) (wk53 dy) (by decide) rfl (r := 78) (wc53_28 dy) ?_
      refine v_iload_n 18 1 rfl rfl rfl ?_
      have c6 := h.1
      have h := h.2
      refine v_ba (N := 600) 19 rfl (al 78 rfl hn) (wk78 dy) (wn78 dy) (by decide) c6 (y := g 78 x1.toNat) rfl ?_
      refine v_rng fun w7 => ?_
      have p8 : i3 (g 78 x1.toNat) := rI w7 (q := x1.toNat) (al 78 rfl hn) (wk78 dy) rfl rfl
      exact v_ret (v := some (I_ (g 78 x1.toNat))) 20 rfl (Nat.zero_le _) (Nat.zero_le _) trivial rfl h
    · have h := h.2 q5
      refine v_aload_n 11 0 rfl rfl rfl ?_
      refine v_iconst 12 rfl ?_
      refine v_putI 13 rfl fl12_148_11 (al 53 rfl hn) (wk53 dy) (by decide) rfl (wc53_1 dy) (by decide) ?_
      refine v_iconst 14 rfl ?_
      exact v_ret (v := some (I_ 0)) 15 rfl (Nat.zero_le _) (Nat.zero_le _) trivial rfl h
theorem wX12_out {d n : Nat} {dy : Nat → Shp} {g : Hp} {P : Pst} {x1 : Int} (hn : 100 ≤ n) (h : (i3 x1) ∧ ((x1 < 0) → P (some (I_ 0)) n (W0 dy) (up2 (up2 g 53 1 0) 53 1 1)) ∧ ((0 ≤ x1) → ((x1 < (min (g 53 29) 600)) → (0 ≤ x1 ∧ x1 < 600) ∧ P (some (I_ (g 78 x1.toNat))) n (W0 dy) (up2 g 53 1 0)) ∧ (((min (g 53 29) 600) ≤ x1) → P (some (I_ 0)) n (W0 dy) (up2 (up2 g 53 1 0) 53 1 1)))) : Runs miX12_out (d + 1) [.ref 53, I_ x1] n (W0 dy) g P := Runs.of rfl rfl deX12_out (Nat.le_of_ble_eq_true rfl) (bX12_out_0 hn h)
