theorem lv9_34_canBeParted_8 : LkV miX9_canBeParted miX9_at 34 1 8 := ⟨⟨⟨tbG_in (List.mem_append_right _ (List.mem_of_getElem? (i := 310) (by decide +kernel))) rfl, tbG_in (List.mem_append_right _ (List.mem_of_getElem? (i := 8) (by decide +kernel))) rfl, tbG_in (List.mem_append_right _ (List.mem_of_getElem? (i := 888) (by decide +kernel))) rfl⟩, ⟨by decide +kernel, by decide +kernel, by decide +kernel⟩, by decide⟩, tbG_in (List.mem_append_right _ (List.mem_of_getElem? (i := 308) (by decide +kernel))) rfl, RX9, TX9, 3, rfl, tbG_in (List.mem_append_right _ (List.mem_of_getElem? (i := 309) (by decide +kernel))) rfl⟩
set_option maxHeartbeats 8000000 in
set_option maxRecDepth 4000 in
theorem bX9_canBeParted_0 {d n : Nat} {dy : Nat → Shp} {g : Hp} {P : Pst} {r0 : Nat} (hn : 100 ≤ n) (h : (Tr n (W0 dy) r0) ∧ (((g r0 1) < 2) → P (some (I_ 0)) n (W0 dy) g) ∧ ((2 ≤ (g r0 1)) → (((g r0 1) ≤ 10) → V miX9_canBeParted (d + 1) 21 [(0, .ref r0), (1, I_ 0)] [] n (W0 dy) g 0 0 P) ∧ ((10 < (g r0 1)) → P (some (I_ 0)) n (W0 dy) g))) : V miX9_canBeParted (d + 1) 0 [(0, .ref r0)] [] n (W0 dy) g 0 0 P := by
  refine v_aload_n 0 0 rfl rfl rfl ?_
  have c1 := h.1
  have h := h.2
  refine v_gI 1 rfl fl9_15_8.r c1.1 c1.2.1 (by decide) rfl c1.2.2.2.1 (x := g r0 1) rfl ?_
  refine v_rng fun w2 => ?_
  have p3 : i3 (g r0 1) := rI w2 (q := 1) c1.1 c1.2.1 rfl rfl
  refine v_iconst 2 rfl ?_
  refine v_icmp_lt 3 rfl (tgt := 17) rfl p3 (by decide) (fun q4 => ?_) (fun q4 => ?_)
  · have h := h.1 q4
    refine v_iconst 8 rfl ?_
    exact v_ret (v := some (I_ 0)) 9 rfl (Nat.zero_le _) (Nat.zero_le _) (Or.inl rfl) rfl h
  · have h := h.2 q4
    refine v_aload_n 4 0 rfl rfl rfl ?_
    refine v_gI 5 rfl fl9_15_8.r c1.1 c1.2.1 (by decide) rfl c1.2.2.2.1 (x := g r0 1) rfl ?_
    refine v_rng fun w5 => ?_
    have p6 : i3 (g r0 1) := rI w5 (q := 1) c1.1 c1.2.1 rfl rfl
    refine v_bipush 6 rfl (by decide) ?_
    refine v_icmp_le 7 rfl (tgt := 19) rfl p6 (by decide) (fun q7 => ?_) (fun q7 => ?_)
    · have h := h.1 q7
      refine v_iconst 10 rfl ?_
      refine v_istore_n 11 [1, 0] rfl rfl (by decide) rfl ?_
      exact h
    · have h := h.2 q7
      refine v_iconst 8 rfl ?_
      exact v_ret (v := some (I_ 0)) 9 rfl (Nat.zero_le _) (Nat.zero_le _) (Or.inl rfl) rfl h
set_option maxHeartbeats 8000000 in
set_option maxRecDepth 4000 in
theorem bX9_canBeParted_21 {d n : Nat} {dy : Nat → Shp} {g : Hp} {P : Pst} {r0 : Nat} {x1 : Int} (hn : 100 ≤ n) (h : (Tr n (W0 dy) r0) ∧ (i3 x1) ∧ (((g r0 1) ≤ x1) → P (some (I_ 1)) n (W0 dy) g) ∧ ((x1 < (g r0 1)) → Runs miX9_at d [.ref r0, I_ x1] n (W0 dy) g (fun v n' S' g' => V miX9_canBeParted (d + 1) 34 [(0, .ref r0), (1, I_ x1)] (v.toList ++ []) n' S' g' 0 0 P))) : V miX9_canBeParted (d + 1) 21 [(0, .ref r0), (1, I_ x1)] [] n (W0 dy) g 0 0 P := by
  refine v_iload_n 12 1 rfl rfl rfl ?_
  refine v_aload_n 13 0 rfl rfl rfl ?_
  have c1 := h.1
  have h := h.2
  refine v_gI 14 rfl fl9_15_8.r c1.1 c1.2.1 (by decide) rfl c1.2.2.2.1 (x := g r0 1) rfl ?_
  refine v_rng fun w2 => ?_
  have p3 : i3 (g r0 1) := rI w2 (q := 1) c1.1 c1.2.1 rfl rfl
  have c4 := h.1
  have h := h.2
  refine v_icmp_ge 15 rfl (tgt := 59) rfl c4 p3 (fun q5 => ?_) (fun q5 => ?_)
  · have h := h.1 q5
    refine v_iconst 32 rfl ?_
    exact v_ret (v := some (I_ 1)) 33 rfl (Nat.zero_le _) (Nat.zero_le _) (Or.inr rfl) rfl h
  · have h := h.2 q5
    refine v_aload_n 16 0 rfl rfl rfl ?_
    refine v_iload_n 17 1 rfl rfl rfl ?_
    refine v_callV (st := []) [I_ x1] 18 rfl lv9_34_canBeParted_8 c1.1 c1.2.1 (by decide) rfl (Nat.le_refl _) (Nat.le_refl _) ?_
    exact h
set_option maxHeartbeats 8000000 in
set_option maxRecDepth 4000 in
theorem bX9_canBeParted_34 {d n : Nat} {dy : Nat → Shp} {g : Hp} {P : Pst} {r0 : Nat} {x1 : Int} {xs0 : Int} (hn : 100 ≤ n) (h : (i6 xs0) ∧ ((xs0 < 1) → P (some (I_ 0)) n (W0 dy) g) ∧ ((1 ≤ xs0) → (Tr n (W0 dy) r0) ∧ Runs miX9_at d [.ref r0, I_ x1] n (W0 dy) g (fun v n' S' g' => V miX9_canBeParted (d + 1) 44 [(0, .ref r0), (1, I_ x1)] (v.toList ++ []) n' S' g' 0 0 P))) : V miX9_canBeParted (d + 1) 34 [(0, .ref r0), (1, I_ x1)] [L_ xs0] n (W0 dy) g 0 0 P := by
  refine v_lconst (v := 1) 19 rfl (by decide) ?_
  have c1 := h.1
  have h := h.2
  refine v_lif_lt 20 rfl rfl (tgt := 51) rfl c1 (by decide) (fun q2 => ?_) (fun q2 => ?_)
  · have h := h.1 q2
    refine v_iconst 28 rfl ?_
    exact v_ret (v := some (I_ 0)) 29 rfl (Nat.zero_le _) (Nat.zero_le _) (Or.inl rfl) rfl h
  · have h := h.2 q2
    refine v_aload_n 22 0 rfl rfl rfl ?_
    refine v_iload_n 23 1 rfl rfl rfl ?_
    have c3 := h.1
    have h := h.2
    refine v_callV (st := []) [I_ x1] 24 rfl lv9_34_canBeParted_8 c3.1 c3.2.1 (by decide) rfl (Nat.le_refl _) (Nat.le_refl _) ?_
    exact h
set_option maxHeartbeats 8000000 in
set_option maxRecDepth 4000 in
theorem bX9_canBeParted_44 {d n : Nat} {dy : Nat → Shp} {g : Hp} {P : Pst} {r0 : Nat} {x1 : Int} {xs0 : Int} (hn : 100 ≤ n) (h : (i6 xs0) ∧ ((xs0 ≤ 1000000) → V miX9_canBeParted (d + 1) 21 [(0, .ref r0), (1, I_ (x1 + 1))] [] n (W0 dy) g 0 0 P) ∧ ((1000000 < xs0) → P (some (I_ 0)) n (W0 dy) g)) : V miX9_canBeParted (d + 1) 44 [(0, .ref r0), (1, I_ x1)] [L_ xs0] n (W0 dy) g 0 0 P := by
  refine v_ldc2 (v := 1000000) 25 rfl (tbG_in (List.mem_append_right _ (List.mem_of_getElem? (i := 889) (by decide +kernel))) rfl) ?_
  have c1 := h.1
  have h := h.2
  refine v_lif_le 26 rfl rfl (tgt := 53) rfl c1 (by decide) (fun q2 => ?_) (fun q2 => ?_)
  · have h := h.1 q2
    refine v_iinc 30 1 [1, 0] rfl rfl (by decide) rfl ?_
    refine v_goto 31 rfl (tgt := 21) rfl ?_
    exact h
  · have h := h.2 q2
    refine v_iconst 28 rfl ?_
    exact v_ret (v := some (I_ 0)) 29 rfl (Nat.zero_le _) (Nat.zero_le _) (Or.inl rfl) rfl h
theorem wX9_canBeParted {d n : Nat} {dy : Nat → Shp} {g : Hp} {P : Pst} {r0 : Nat} (hn : 100 ≤ n) (h : (Tr n (W0 dy) r0) ∧ (((g r0 1) < 2) → P (some (I_ 0)) n (W0 dy) g) ∧ ((2 ≤ (g r0 1)) → (((g r0 1) ≤ 10) → V miX9_canBeParted (d + 1) 21 [(0, .ref r0), (1, I_ 0)] [] n (W0 dy) g 0 0 P) ∧ ((10 < (g r0 1)) → P (some (I_ 0)) n (W0 dy) g))) : Runs miX9_canBeParted (d + 1) [.ref r0] n (W0 dy) g P := Runs.of rfl rfl deX9_canBeParted (Nat.le_of_ble_eq_true rfl) (bX9_canBeParted_0 hn h)
theorem fl11_25_10 : FL RX11 25 10 3 false .int := ⟨RX11, TX11, 13, "MobileMaker", rfl, rfl, by decide, kf10, tbG_in (List.mem_append_right _ (List.mem_of_getElem? (i := 219) (by decide +kernel))) rfl, Or.inl rfl, rfl, by decide +kernel, ⟨tyX11, tyX11_ok⟩, nmX11, fun h => by cases h⟩
set_option maxHeartbeats 8000000 in
set_option maxRecDepth 4000 in
theorem bX11_status_0 {d n : Nat} {dy : Nat → Shp} {g : Hp} {P : Pst}  (hn : 100 ≤ n) (h : P (some (I_ (g 1 3))) n (W0 dy) g) : V miX11_status d 0 [(0, .ref 1)] [] n (W0 dy) g 0 0 P := by
  refine v_aload_n 0 0 rfl rfl rfl ?_
  refine v_gI 1 rfl fl11_25_10.r (al 1 rfl hn) (wk1 dy) (by decide) rfl (wc1_3 dy) (x := g 1 3) rfl ?_
  refine v_rng fun w1 => ?_
  have p2 : i3 (g 1 3) := rI w1 (q := 3) (al 1 rfl hn) (wk1 dy) rfl rfl
  exact v_ret (v := some (I_ (g 1 3))) 2 rfl (Nat.zero_le _) (Nat.zero_le _) trivial rfl h
theorem wX11_status {d n : Nat} {dy : Nat → Shp} {g : Hp} {P : Pst}  (hn : 100 ≤ n) (h : P (some (I_ (g 1 3))) n (W0 dy) g) : Runs miX11_status d [.ref 1] n (W0 dy) g P := Runs.of rfl rfl deX11_status (Nat.le_of_ble_eq_true rfl) (bX11_status_0 hn h)
theorem lv11_81_tray_10 : LkV miX11_tray miX11_trayAt 81 1 10 := ⟨⟨⟨tbG_in (List.mem_append_right _ (List.mem_of_getElem? (i := 267) (by decide +kernel))) rfl, tbG_in (List.mem_append_right _ (List.mem_of_getElem? (i := 1) (by decide +kernel))) rfl, tbG_in (List.mem_append_right _ (List.mem_of_getElem? (i := 264) (by decide +kernel))) rfl⟩, ⟨by decide +kernel, by decide +kernel, by decide +kernel⟩, by decide⟩, tbG_in (List.mem_append_right _ (List.mem_of_getElem? (i := 266) (by decide +kernel))) rfl, RX11, TX11, 13, rfl, tbG_in (List.mem_append_left _ (List.mem_of_getElem? (i := 0) (by decide +kernel))) rfl⟩
theorem lv11_85_tray_10 : LkV miX11_tray miX11_refuses 85 1 10 := ⟨⟨⟨tbG_in (List.mem_append_right _ (List.mem_of_getElem? (i := 271) (by decide +kernel))) rfl, tbG_in (List.mem_append_right _ (List.mem_of_getElem? (i := 1) (by decide +kernel))) rfl, tbG_in (List.mem_append_right _ (List.mem_of_getElem? (i := 268) (by decide +kernel))) rfl⟩, ⟨by decide +kernel, by decide +kernel, by decide +kernel⟩, by decide⟩, tbG_in (List.mem_append_right _ (List.mem_of_getElem? (i := 270) (by decide +kernel))) rfl, RX11, TX11, 13, rfl, tbG_in (List.mem_append_left _ (List.mem_of_getElem? (i := 1) (by decide +kernel))) rfl⟩
theorem lv11_89_tray_8 : LkV miX11_tray miX9_lay 89 2 8 := ⟨⟨⟨tbG_in (List.mem_append_right _ (List.mem_of_getElem? (i := 275) (by decide +kernel))) rfl, tbG_in (List.mem_append_right _ (List.mem_of_getElem? (i := 8) (by decide +kernel))) rfl, tbG_in (List.mem_append_right _ (List.mem_of_getElem? (i := 272) (by decide +kernel))) rfl⟩, ⟨by decide +kernel, by decide +kernel, by decide +kernel⟩, by decide⟩, tbG_in (List.mem_append_right _ (List.mem_of_getElem? (i := 273) (by decide +kernel))) rfl, RX9, TX9, 3, rfl, tbG_in (List.mem_append_right _ (List.mem_of_getElem? (i := 274) (by decide +kernel))) rfl⟩
theorem lv11_93_tray_10 : LkV miX11_tray miX11_allows 93 0 10 := ⟨⟨⟨tbG_in (List.mem_append_right _ (List.mem_of_getElem? (i := 282) (by decide +kernel))) rfl, tbG_in (List.mem_append_right _ (List.mem_of_getElem? (i := 1) (by decide +kernel))) rfl, tbG_in (List.mem_append_right _ (List.mem_of_getElem? (i := 279) (by decide +kernel))) rfl⟩, ⟨by decide +kernel, by decide +kernel, by decide +kernel⟩, by decide⟩, tbG_in (List.mem_append_right _ (List.mem_of_getElem? (i := 281) (by decide +kernel))) rfl, RX11, TX11, 13, rfl, tbG_in (List.mem_append_left _ (List.mem_of_getElem? (i := 2) (by decide +kernel))) rfl⟩
set_option maxHeartbeats 8000000 in
set_option maxRecDepth 4000 in
theorem bX11_tray_0 {d n : Nat} {dy : Nat → Shp} {g : Hp} {P : Pst} {x1 : Int} {x2 : Int} {x3 : Int} (hn : 100 ≤ n) (h : Runs miX11_trayAt d [.ref 1, I_ x1] n (W0 dy) g (fun v n' S' g' => V miX11_tray (d + 1) 5 [(0, .ref 1), (1, I_ x1), (2, I_ x2), (3, I_ x3)] (v.toList ++ []) n' S' g' 0 0 P)) : V miX11_tray (d + 1) 0 [(0, .ref 1), (1, I_ x1), (2, I_ x2), (3, I_ x3)] [] n (W0 dy) g 0 0 P := by
  refine v_aload_n 0 0 rfl rfl rfl ?_
  refine v_iload_n 1 1 rfl rfl rfl ?_
  refine v_callV (st := []) [I_ x1] 2 rfl lv11_81_tray_10 (al 1 rfl hn) (wk1 dy) (by decide) rfl (Nat.le_refl _) (Nat.le_refl _) ?_
  exact h
set_option maxHeartbeats 8000000 in
set_option maxRecDepth 4000 in
theorem bX11_tray_5 {d n : Nat} {dy : Nat → Shp} {g : Hp} {P : Pst} {x1 : Int} {x2 : Int} {x3 : Int} {rs0 : Nat} (hn : 100 ≤ n) (h : ((rs0 = 0) → Runs miX11_refuses d [.ref 1, I_ 1] n (W0 dy) g (fun v n' S' g' => V miX11_tray (d + 1) 26 [(0, .ref 1), (1, I_ x1), (2, I_ x2), (3, I_ x3), (4, .ref rs0)] (v.toList ++ []) n' S' g' 0 0 P)) ∧ ((0 < rs0) → (i3 x2) ∧ ((x2 < 0) → Runs miX11_refuses d [.ref 1, I_ 1] n (W0 dy) g (fun v n' S' g' => V miX11_tray (d + 1) 26 [(0, .ref 1), (1, I_ x1), (2, I_ x2), (3, I_ x3), (4, .ref rs0)] (v.toList ++ []) n' S' g' 0 0 P)) ∧ ((0 ≤ x2) → ((x2 < 3) → (i3 x3) ∧ ((0 ≤ x3) → ((x3 ≤ 16) → (Tr n (W0 dy) rs0) ∧ Runs miX9_lay d [.ref rs0, I_ x2, I_ x3] n (W0 dy) g (fun v n' S' g' => V miX11_tray (d + 1) 58 [(0, .ref 1), (1, I_ x1), (2, I_ x2), (3, I_ x3), (4, .ref rs0)] (v.toList ++ []) n' S' g' 0 0 P)) ∧ ((16 < x3) → Runs miX11_refuses d [.ref 1, I_ 7] n (W0 dy) g (fun v n' S' g' => V miX11_tray (d + 1) 50 [(0, .ref 1), (1, I_ x1), (2, I_ x2), (3, I_ x3), (4, .ref rs0)] (v.toList ++ []) n' S' g' 0 0 P))) ∧ ((x3 < 0) → Runs miX11_refuses d [.ref 1, I_ 6] n (W0 dy) g (fun v n' S' g' => V miX11_tray (d + 1) 37 [(0, .ref 1), (1, I_ x1), (2, I_ x2), (3, I_ x3), (4, .ref rs0)] (v.toList ++ []) n' S' g' 0 0 P))) ∧ ((3 ≤ x2) → Runs miX11_refuses d [.ref 1, I_ 1] n (W0 dy) g (fun v n' S' g' => V miX11_tray (d + 1) 26 [(0, .ref 1), (1, I_ x1), (2, I_ x2), (3, I_ x3), (4, .ref rs0)] (v.toList ++ []) n' S' g' 0 0 P))))) : V miX11_tray (d + 1) 5 [(0, .ref 1), (1, I_ x1), (2, I_ x2), (3, I_ x3)] [.ref rs0] n (W0 dy) g 0 0 P := by
  refine v_astore 3 [1, 2, 3, 4, 0] rfl (by decide) rfl ?_
  refine v_aload 4 4 rfl rfl ?_
  refine v_ifnull 5 rfl (tgt := 21) rfl (fun q1 => ?_) (fun q1 => ?_)
  · have h := h.1 q1
    refine v_aload_n 11 0 rfl rfl rfl ?_
    refine v_iconst 12 rfl ?_
    refine v_callV (st := []) [I_ 1] 13 rfl lv11_85_tray_10 (al 1 rfl hn) (wk1 dy) (by decide) rfl (Nat.le_refl _) (Nat.le_refl _) ?_
    exact h
  · have h := h.2 q1
    refine v_iload_n 6 2 rfl rfl rfl ?_
    have c2 := h.1
    have h := h.2
    refine v_if_lt 7 rfl (tgt := 21) rfl c2 (fun q3 => ?_) (fun q3 => ?_)
    · have h := h.1 q3
      refine v_aload_n 11 0 rfl rfl rfl ?_
      refine v_iconst 12 rfl ?_
      refine v_callV (st := []) [I_ 1] 13 rfl lv11_85_tray_10 (al 1 rfl hn) (wk1 dy) (by decide) rfl (Nat.le_refl _) (Nat.le_refl _) ?_
      exact h
    · have h := h.2 q3
      refine v_iload_n 8 2 rfl rfl rfl ?_
      refine v_iconst 9 rfl ?_
      refine v_icmp_lt 10 rfl (tgt := 27) rfl c2 (by decide) (fun q4 => ?_) (fun q4 => ?_)
      · have h := h.1 q4
        refine v_iload_n 15 3 rfl rfl rfl ?_
        have c5 := h.1
        have h := h.2
        refine v_if_ge 16 rfl (tgt := 38) rfl c5 (fun q6 => ?_) (fun q6 => ?_)
        · have h := h.1 q6
          refine v_iload_n 21 3 rfl rfl rfl ?_
          refine v_bipush 22 rfl (by decide) ?_
          refine v_icmp_le 23 rfl (tgt := 51) rfl c5 (by decide) (fun q7 => ?_) (fun q7 => ?_)
          · have h := h.1 q7
            refine v_aload 28 4 rfl rfl ?_
            refine v_iload_n 29 2 rfl rfl rfl ?_
            refine v_iload_n 30 3 rfl rfl rfl ?_
            have c8 := h.1
            have h := h.2
            refine v_callV (st := []) [I_ x2, I_ x3] 31 rfl lv11_89_tray_8 c8.1 c8.2.1 (by decide) rfl (Nat.le_refl _) (Nat.le_refl _) ?_
            exact h
          · have h := h.2 q7
            refine v_aload_n 24 0 rfl rfl rfl ?_
            refine v_bipush 25 rfl (by decide) ?_
            refine v_callV (st := []) [I_ 7] 26 rfl lv11_85_tray_10 (al 1 rfl hn) (wk1 dy) (by decide) rfl (Nat.le_refl _) (Nat.le_refl _) ?_
            exact h
        · have h := h.2 q6
          refine v_aload_n 17 0 rfl rfl rfl ?_
          refine v_bipush 18 rfl (by decide) ?_
          refine v_callV (st := []) [I_ 6] 19 rfl lv11_85_tray_10 (al 1 rfl hn) (wk1 dy) (by decide) rfl (Nat.le_refl _) (Nat.le_refl _) ?_
          exact h
      · have h := h.2 q4
        refine v_aload_n 11 0 rfl rfl rfl ?_
        refine v_iconst 12 rfl ?_
        refine v_callV (st := []) [I_ 1] 13 rfl lv11_85_tray_10 (al 1 rfl hn) (wk1 dy) (by decide) rfl (Nat.le_refl _) (Nat.le_refl _) ?_
        exact h
set_option maxHeartbeats 8000000 in
set_option maxRecDepth 4000 in
theorem bX11_tray_26 {d n : Nat} {dy : Nat → Shp} {g : Hp} {P : Pst} {x1 : Int} {x2 : Int} {x3 : Int} {r4 : Nat} {xs0 : Int} (hn : 100 ≤ n) (h : (xs0 = 0 ∨ xs0 = 1) ∧ P (some (I_ xs0)) n (W0 dy) g) : V miX11_tray (d + 1) 26 [(0, .ref 1), (1, I_ x1), (2, I_ x2), (3, I_ x3), (4, .ref r4)] [I_ xs0] n (W0 dy) g 0 0 P := by
  have c1 := h.1
  have h := h.2
  exact v_ret (v := some (I_ xs0)) 14 rfl (Nat.zero_le _) (Nat.zero_le _) (rokZ c1) rfl h
set_option maxHeartbeats 8000000 in
set_option maxRecDepth 4000 in
theorem bX11_tray_37 {d n : Nat} {dy : Nat → Shp} {g : Hp} {P : Pst} {x1 : Int} {x2 : Int} {x3 : Int} {r4 : Nat} {xs0 : Int} (hn : 100 ≤ n) (h : (xs0 = 0 ∨ xs0 = 1) ∧ P (some (I_ xs0)) n (W0 dy) g) : V miX11_tray (d + 1) 37 [(0, .ref 1), (1, I_ x1), (2, I_ x2), (3, I_ x3), (4, .ref r4)] [I_ xs0] n (W0 dy) g 0 0 P := by
  have c1 := h.1
  have h := h.2
  exact v_ret (v := some (I_ xs0)) 20 rfl (Nat.zero_le _) (Nat.zero_le _) (rokZ c1) rfl h
set_option maxHeartbeats 8000000 in
set_option maxRecDepth 4000 in
theorem bX11_tray_50 {d n : Nat} {dy : Nat → Shp} {g : Hp} {P : Pst} {x1 : Int} {x2 : Int} {x3 : Int} {r4 : Nat} {xs0 : Int} (hn : 100 ≤ n) (h : (xs0 = 0 ∨ xs0 = 1) ∧ P (some (I_ xs0)) n (W0 dy) g) : V miX11_tray (d + 1) 50 [(0, .ref 1), (1, I_ x1), (2, I_ x2), (3, I_ x3), (4, .ref r4)] [I_ xs0] n (W0 dy) g 0 0 P := by
  have c1 := h.1
  have h := h.2
  exact v_ret (v := some (I_ xs0)) 27 rfl (Nat.zero_le _) (Nat.zero_le _) (rokZ c1) rfl h
set_option maxHeartbeats 8000000 in
set_option maxRecDepth 4000 in
theorem bX11_tray_58 {d n : Nat} {dy : Nat → Shp} {g : Hp} {P : Pst} {x1 : Int} {x2 : Int} {x3 : Int} {r4 : Nat} (hn : 100 ≤ n) (h : Runs miX11_allows d [.ref 1] n (W0 dy) g (fun v n' S' g' => V miX11_tray (d + 1) 62 [(0, .ref 1), (1, I_ x1), (2, I_ x2), (3, I_ x3), (4, .ref r4)] (v.toList ++ []) n' S' g' 0 0 P)) : V miX11_tray (d + 1) 58 [(0, .ref 1), (1, I_ x1), (2, I_ x2), (3, I_ x3), (4, .ref r4)] [] n (W0 dy) g 0 0 P := by
  refine v_aload_n 32 0 rfl rfl rfl ?_
  refine v_callV (st := []) [] 33 rfl lv11_93_tray_10 (al 1 rfl hn) (wk1 dy) (by decide) rfl (Nat.le_refl _) (Nat.le_refl _) ?_
  exact h
set_option maxHeartbeats 8000000 in
set_option maxRecDepth 4000 in
theorem bX11_tray_62 {d n : Nat} {dy : Nat → Shp} {g : Hp} {P : Pst} {x1 : Int} {x2 : Int} {x3 : Int} {r4 : Nat} {xs0 : Int} (hn : 100 ≤ n) (h : (xs0 = 0 ∨ xs0 = 1) ∧ P (some (I_ xs0)) n (W0 dy) g) : V miX11_tray (d + 1) 62 [(0, .ref 1), (1, I_ x1), (2, I_ x2), (3, I_ x3), (4, .ref r4)] [I_ xs0] n (W0 dy) g 0 0 P := by
  have c1 := h.1
  have h := h.2
  exact v_ret (v := some (I_ xs0)) 34 rfl (Nat.zero_le _) (Nat.zero_le _) (rokZ c1) rfl h
theorem wX11_tray {d n : Nat} {dy : Nat → Shp} {g : Hp} {P : Pst} {x1 : Int} {x2 : Int} {x3 : Int} (hn : 100 ≤ n) (h : Runs miX11_trayAt d [.ref 1, I_ x1] n (W0 dy) g (fun v n' S' g' => V miX11_tray (d + 1) 5 [(0, .ref 1), (1, I_ x1), (2, I_ x2), (3, I_ x3)] (v.toList ++ []) n' S' g' 0 0 P)) : Runs miX11_tray (d + 1) [.ref 1, I_ x1, I_ x2, I_ x3] n (W0 dy) g P := Runs.of rfl rfl deX11_tray (Nat.le_of_ble_eq_true rfl) (bX11_tray_0 hn h)
theorem lv11_81_write_10 : LkV miX11_write miX11_trayAt 81 1 10 := ⟨⟨⟨tbG_in (List.mem_append_right _ (List.mem_of_getElem? (i := 267) (by decide +kernel))) rfl, tbG_in (List.mem_append_right _ (List.mem_of_getElem? (i := 1) (by decide +kernel))) rfl, tbG_in (List.mem_append_right _ (List.mem_of_getElem? (i := 264) (by decide +kernel))) rfl⟩, ⟨by decide +kernel, by decide +kernel, by decide +kernel⟩, by decide⟩, tbG_in (List.mem_append_right _ (List.mem_of_getElem? (i := 266) (by decide +kernel))) rfl, RX11, TX11, 13, rfl, tbG_in (List.mem_append_left _ (List.mem_of_getElem? (i := 0) (by decide +kernel))) rfl⟩
theorem ls11_97_write : LkS miX11_write miX11_placeStatus 97 2 := ⟨⟨⟨tbG_in (List.mem_append_right _ (List.mem_of_getElem? (i := 289) (by decide +kernel))) rfl, tbG_in (List.mem_append_right _ (List.mem_of_getElem? (i := 1) (by decide +kernel))) rfl, tbG_in (List.mem_append_right _ (List.mem_of_getElem? (i := 287) (by decide +kernel))) rfl⟩, ⟨by decide +kernel, by decide +kernel, by decide +kernel⟩, by decide⟩, tbG_in (List.mem_append_right _ (List.mem_of_getElem? (i := 288) (by decide +kernel))) rfl⟩
theorem lv11_85_write_10 : LkV miX11_write miX11_refuses 85 1 10 := ⟨⟨⟨tbG_in (List.mem_append_right _ (List.mem_of_getElem? (i := 271) (by decide +kernel))) rfl, tbG_in (List.mem_append_right _ (List.mem_of_getElem? (i := 1) (by decide +kernel))) rfl, tbG_in (List.mem_append_right _ (List.mem_of_getElem? (i := 268) (by decide +kernel))) rfl⟩, ⟨by decide +kernel, by decide +kernel, by decide +kernel⟩, by decide⟩, tbG_in (List.mem_append_right _ (List.mem_of_getElem? (i := 270) (by decide +kernel))) rfl, RX11, TX11, 13, rfl, tbG_in (List.mem_append_left _ (List.mem_of_getElem? (i := 1) (by decide +kernel))) rfl⟩
theorem lv11_101_write_8 : LkV miX11_write miX9_put 101 2 8 := ⟨⟨⟨tbG_in (List.mem_append_right _ (List.mem_of_getElem? (i := 301) (by decide +kernel))) rfl, tbG_in (List.mem_append_right _ (List.mem_of_getElem? (i := 8) (by decide +kernel))) rfl, tbG_in (List.mem_append_right _ (List.mem_of_getElem? (i := 298) (by decide +kernel))) rfl⟩, ⟨by decide +kernel, by decide +kernel, by decide +kernel⟩, by decide⟩, tbG_in (List.mem_append_right _ (List.mem_of_getElem? (i := 299) (by decide +kernel))) rfl, RX9, TX9, 3, rfl, tbG_in (List.mem_append_right _ (List.mem_of_getElem? (i := 300) (by decide +kernel))) rfl⟩
theorem lv11_93_write_10 : LkV miX11_write miX11_allows 93 0 10 := ⟨⟨⟨tbG_in (List.mem_append_right _ (List.mem_of_getElem? (i := 282) (by decide +kernel))) rfl, tbG_in (List.mem_append_right _ (List.mem_of_getElem? (i := 1) (by decide +kernel))) rfl, tbG_in (List.mem_append_right _ (List.mem_of_getElem? (i := 279) (by decide +kernel))) rfl⟩, ⟨by decide +kernel, by decide +kernel, by decide +kernel⟩, by decide⟩, tbG_in (List.mem_append_right _ (List.mem_of_getElem? (i := 281) (by decide +kernel))) rfl, RX11, TX11, 13, rfl, tbG_in (List.mem_append_left _ (List.mem_of_getElem? (i := 2) (by decide +kernel))) rfl⟩
set_option maxHeartbeats 8000000 in
set_option maxRecDepth 4000 in
theorem bX11_write_0 {d n : Nat} {dy : Nat → Shp} {g : Hp} {P : Pst} {x1 : Int} {x2 : Int} {x3 : Int} (hn : 100 ≤ n) (h : Runs miX11_trayAt d [.ref 1, I_ x1] n (W0 dy) g (fun v n' S' g' => V miX11_write (d + 1) 5 [(0, .ref 1), (1, I_ x1), (2, I_ x2), (3, L_ x3)] (v.toList ++ []) n' S' g' 0 0 P)) : V miX11_write (d + 1) 0 [(0, .ref 1), (1, I_ x1), (2, I_ x2), (3, L_ x3)] [] n (W0 dy) g 0 0 P := by
  refine v_aload_n 0 0 rfl rfl rfl ?_
  refine v_iload_n 1 1 rfl rfl rfl ?_
  refine v_callV (st := []) [I_ x1] 2 rfl lv11_81_write_10 (al 1 rfl hn) (wk1 dy) (by decide) rfl (Nat.le_refl _) (Nat.le_refl _) ?_
  exact h
set_option maxHeartbeats 8000000 in
set_option maxRecDepth 4000 in
theorem bX11_write_5 {d n : Nat} {dy : Nat → Shp} {g : Hp} {P : Pst} {x1 : Int} {x2 : Int} {x3 : Int} {rs0 : Nat} (hn : 100 ≤ n) (h : Runs miX11_placeStatus d [.ref rs0, I_ x2] n (W0 dy) g (fun v n' S' g' => V miX11_write (d + 1) 13 [(0, .ref 1), (1, I_ x1), (2, I_ x2), (3, L_ x3), (5, .ref rs0)] (v.toList ++ []) n' S' g' 0 0 P)) : V miX11_write (d + 1) 5 [(0, .ref 1), (1, I_ x1), (2, I_ x2), (3, L_ x3)] [.ref rs0] n (W0 dy) g 0 0 P := by
  refine v_astore 3 [1, 2, 3, 4, 0] rfl (by decide) rfl ?_
  refine v_aload 4 4 rfl rfl ?_
  refine v_iload_n 5 2 rfl rfl rfl ?_
  refine v_callS (st := []) [.ref rs0, I_ x2] 6 rfl ls11_97_write rfl (Nat.lt_of_lt_of_le (by decide) hn) (Nat.le_refl _) (Nat.le_refl _) ?_
  exact h
set_option maxHeartbeats 8000000 in
set_option maxRecDepth 4000 in
theorem bX11_write_13 {d n : Nat} {dy : Nat → Shp} {g : Hp} {P : Pst} {x1 : Int} {x2 : Int} {x3 : Int} {r5 : Nat} {xs0 : Int} (hn : 100 ≤ n) (h : (i3 xs0) ∧ ((xs0 ≠ 0) → Runs miX11_refuses d [.ref 1, I_ xs0] n (W0 dy) g (fun v n' S' g' => V miX11_write (d + 1) 31 [(0, .ref 1), (1, I_ x1), (2, I_ x2), (3, L_ x3), (5, .ref r5), (6, I_ xs0)] (v.toList ++ []) n' S' g' 0 0 P)) ∧ ((xs0 = 0) → ((0 < r5) → (Tr n (W0 dy) r5) ∧ Runs miX9_put d [.ref r5, I_ x2, L_ x3] n (W0 dy) g (fun v n' S' g' => V miX11_write (d + 1) 39 [(0, .ref 1), (1, I_ x1), (2, I_ x2), (3, L_ x3), (5, .ref r5), (6, I_ xs0)] (v.toList ++ []) n' S' g' 0 0 P)) ∧ ((r5 = 0) → Runs miX11_refuses d [.ref 1, I_ xs0] n (W0 dy) g (fun v n' S' g' => V miX11_write (d + 1) 31 [(0, .ref 1), (1, I_ x1), (2, I_ x2), (3, L_ x3), (5, .ref r5), (6, I_ xs0)] (v.toList ++ []) n' S' g' 0 0 P)))) : V miX11_write (d + 1) 13 [(0, .ref 1), (1, I_ x1), (2, I_ x2), (3, L_ x3), (5, .ref r5)] [I_ xs0] n (W0 dy) g 0 0 P := by
  refine v_istore 7 [1, 2, 3, 4, 5, 0] rfl (by decide) rfl ?_
  refine v_iload 8 5 rfl rfl ?_
  have c1 := h.1
  have h := h.2
  refine v_if_ne 9 rfl (tgt := 25) rfl c1 (fun q2 => ?_) (fun q2 => ?_)
  · have h := h.1 q2
    refine v_aload_n 12 0 rfl rfl rfl ?_
    refine v_iload 13 5 rfl rfl ?_
    refine v_callV (st := []) [I_ xs0] 14 rfl lv11_85_write_10 (al 1 rfl hn) (wk1 dy) (by decide) rfl (Nat.le_refl _) (Nat.le_refl _) ?_
    exact h
  · have h := h.2 q2
    refine v_aload 10 4 rfl rfl ?_
    refine v_ifnonnull 11 rfl (tgt := 32) rfl (fun q3 => ?_) (fun q3 => ?_)
    · have h := h.1 q3
      refine v_aload 16 4 rfl rfl ?_
      refine v_iload_n 17 2 rfl rfl rfl ?_
      refine v_lload_n 18 3 rfl rfl rfl ?_
      have c4 := h.1
      have h := h.2
      refine v_callV (st := []) [I_ x2, L_ x3] 19 rfl lv11_101_write_8 c4.1 c4.2.1 (by decide) rfl (Nat.le_refl _) (Nat.le_refl _) ?_
      exact h
    · have h := h.2 q3
      refine v_aload_n 12 0 rfl rfl rfl ?_
      refine v_iload 13 5 rfl rfl ?_
      refine v_callV (st := []) [I_ xs0] 14 rfl lv11_85_write_10 (al 1 rfl hn) (wk1 dy) (by decide) rfl (Nat.le_refl _) (Nat.le_refl _) ?_
      exact h
set_option maxHeartbeats 8000000 in
set_option maxRecDepth 4000 in
theorem bX11_write_31 {d n : Nat} {dy : Nat → Shp} {g : Hp} {P : Pst} {x1 : Int} {x2 : Int} {x3 : Int} {r5 : Nat} {x6 : Int} {xs0 : Int} (hn : 100 ≤ n) (h : (xs0 = 0 ∨ xs0 = 1) ∧ P (some (I_ xs0)) n (W0 dy) g) : V miX11_write (d + 1) 31 [(0, .ref 1), (1, I_ x1), (2, I_ x2), (3, L_ x3), (5, .ref r5), (6, I_ x6)] [I_ xs0] n (W0 dy) g 0 0 P := by
  have c1 := h.1
  have h := h.2
  exact v_ret (v := some (I_ xs0)) 15 rfl (Nat.zero_le _) (Nat.zero_le _) (rokZ c1) rfl h
set_option maxHeartbeats 8000000 in
set_option maxRecDepth 4000 in
theorem bX11_write_39 {d n : Nat} {dy : Nat → Shp} {g : Hp} {P : Pst} {x1 : Int} {x2 : Int} {x3 : Int} {r5 : Nat} {x6 : Int} (hn : 100 ≤ n) (h : Runs miX11_allows d [.ref 1] n (W0 dy) g (fun v n' S' g' => V miX11_write (d + 1) 43 [(0, .ref 1), (1, I_ x1), (2, I_ x2), (3, L_ x3), (5, .ref r5), (6, I_ x6)] (v.toList ++ []) n' S' g' 0 0 P)) : V miX11_write (d + 1) 39 [(0, .ref 1), (1, I_ x1), (2, I_ x2), (3, L_ x3), (5, .ref r5), (6, I_ x6)] [] n (W0 dy) g 0 0 P := by
  refine v_aload_n 20 0 rfl rfl rfl ?_
  refine v_callV (st := []) [] 21 rfl lv11_93_write_10 (al 1 rfl hn) (wk1 dy) (by decide) rfl (Nat.le_refl _) (Nat.le_refl _) ?_
  exact h
set_option maxHeartbeats 8000000 in
set_option maxRecDepth 4000 in
theorem bX11_write_43 {d n : Nat} {dy : Nat → Shp} {g : Hp} {P : Pst} {x1 : Int} {x2 : Int} {x3 : Int} {r5 : Nat} {x6 : Int} {xs0 : Int} (hn : 100 ≤ n) (h : (xs0 = 0 ∨ xs0 = 1) ∧ P (some (I_ xs0)) n (W0 dy) g) : V miX11_write (d + 1) 43 [(0, .ref 1), (1, I_ x1), (2, I_ x2), (3, L_ x3), (5, .ref r5), (6, I_ x6)] [I_ xs0] n (W0 dy) g 0 0 P := by
  have c1 := h.1
  have h := h.2
  exact v_ret (v := some (I_ xs0)) 22 rfl (Nat.zero_le _) (Nat.zero_le _) (rokZ c1) rfl h
theorem wX11_write {d n : Nat} {dy : Nat → Shp} {g : Hp} {P : Pst} {x1 : Int} {x2 : Int} {x3 : Int} (hn : 100 ≤ n) (h : Runs miX11_trayAt d [.ref 1, I_ x1] n (W0 dy) g (fun v n' S' g' => V miX11_write (d + 1) 5 [(0, .ref 1), (1, I_ x1), (2, I_ x2), (3, L_ x3)] (v.toList ++ []) n' S' g' 0 0 P)) : Runs miX11_write (d + 1) [.ref 1, I_ x1, I_ x2, L_ x3] n (W0 dy) g P := Runs.of rfl rfl deX11_write (Nat.le_of_ble_eq_true rfl) (bX11_write_0 hn h)
theorem lv11_81_read_10 : LkV miX11_read miX11_trayAt 81 1 10 := ⟨⟨⟨tbG_in (List.mem_append_right _ (List.mem_of_getElem? (i := 267) (by decide +kernel))) rfl, tbG_in (List.mem_append_right _ (List.mem_of_getElem? (i := 1) (by decide +kernel))) rfl, tbG_in (List.mem_append_right _ (List.mem_of_getElem? (i := 264) (by decide +kernel))) rfl⟩, ⟨by decide +kernel, by decide +kernel, by decide +kernel⟩, by decide⟩, tbG_in (List.mem_append_right _ (List.mem_of_getElem? (i := 266) (by decide +kernel))) rfl, RX11, TX11, 13, rfl, tbG_in (List.mem_append_left _ (List.mem_of_getElem? (i := 0) (by decide +kernel))) rfl⟩
theorem ls11_97_read : LkS miX11_read miX11_placeStatus 97 2 := ⟨⟨⟨tbG_in (List.mem_append_right _ (List.mem_of_getElem? (i := 289) (by decide +kernel))) rfl, tbG_in (List.mem_append_right _ (List.mem_of_getElem? (i := 1) (by decide +kernel))) rfl, tbG_in (List.mem_append_right _ (List.mem_of_getElem? (i := 287) (by decide +kernel))) rfl⟩, ⟨by decide +kernel, by decide +kernel, by decide +kernel⟩, by decide⟩, tbG_in (List.mem_append_right _ (List.mem_of_getElem? (i := 288) (by decide +kernel))) rfl⟩
theorem lv11_105_read_8 : LkV miX11_read miX9_at 105 1 8 := ⟨⟨⟨tbG_in (List.mem_append_right _ (List.mem_of_getElem? (i := 310) (by decide +kernel))) rfl, tbG_in (List.mem_append_right _ (List.mem_of_getElem? (i := 8) (by decide +kernel))) rfl, tbG_in (List.mem_append_right _ (List.mem_of_getElem? (i := 307) (by decide +kernel))) rfl⟩, ⟨by decide +kernel, by decide +kernel, by decide +kernel⟩, by decide⟩, tbG_in (List.mem_append_right _ (List.mem_of_getElem? (i := 308) (by decide +kernel))) rfl, RX9, TX9, 3, rfl, tbG_in (List.mem_append_right _ (List.mem_of_getElem? (i := 309) (by decide +kernel))) rfl⟩
set_option maxHeartbeats 8000000 in
set_option maxRecDepth 4000 in
theorem bX11_read_0 {d n : Nat} {dy : Nat → Shp} {g : Hp} {P : Pst} {x1 : Int} {x2 : Int} (hn : 100 ≤ n) (h : Runs miX11_trayAt d [.ref 1, I_ x1] n (W0 dy) g (fun v n' S' g' => V miX11_read (d + 1) 5 [(0, .ref 1), (1, I_ x1), (2, I_ x2)] (v.toList ++ []) n' S' g' 0 0 P)) : V miX11_read (d + 1) 0 [(0, .ref 1), (1, I_ x1), (2, I_ x2)] [] n (W0 dy) g 0 0 P := by
  refine v_aload_n 0 0 rfl rfl rfl ?_
  refine v_iload_n 1 1 rfl rfl rfl ?_
  refine v_callV (st := []) [I_ x1] 2 rfl lv11_81_read_10 (al 1 rfl hn) (wk1 dy) (by decide) rfl (Nat.le_refl _) (Nat.le_refl _) ?_
  exact h
set_option maxHeartbeats 8000000 in
set_option maxRecDepth 4000 in
theorem bX11_read_5 {d n : Nat} {dy : Nat → Shp} {g : Hp} {P : Pst} {x1 : Int} {x2 : Int} {rs0 : Nat} (hn : 100 ≤ n) (h : Runs miX11_placeStatus d [.ref rs0, I_ x2] n (W0 dy) g (fun v n' S' g' => V miX11_read (d + 1) 12 [(0, .ref 1), (1, I_ x1), (2, I_ x2), (3, .ref rs0)] (v.toList ++ [.ref 1]) n' S' g' 0 0 P)) : V miX11_read (d + 1) 5 [(0, .ref 1), (1, I_ x1), (2, I_ x2)] [.ref rs0] n (W0 dy) g 0 0 P := by
  refine v_astore_n 3 [1, 2, 3, 0] rfl rfl (by decide) rfl ?_
  refine v_aload_n 4 0 rfl rfl rfl ?_
  refine v_aload_n 5 3 rfl rfl rfl ?_
  refine v_iload_n 6 2 rfl rfl rfl ?_
  refine v_callS (st := [.ref 1]) [.ref rs0, I_ x2] 7 rfl ls11_97_read rfl (Nat.lt_of_lt_of_le (by decide) hn) (Nat.le_refl _) (Nat.le_refl _) ?_
  exact h
set_option maxHeartbeats 8000000 in
set_option maxRecDepth 4000 in
theorem bX11_read_12 {d n : Nat} {dy : Nat → Shp} {g : Hp} {P : Pst} {x1 : Int} {x2 : Int} {r3 : Nat} {xs1 : Int} (hn : 100 ≤ n) (h : (i3 xs1) ∧ ((xs1 ≠ 0) → P (some (L_ ((-1)))) n (W0 dy) (up2 g 1 3 xs1)) ∧ ((xs1 = 0) → ((r3 = 0) → P (some (L_ ((-1)))) n (W0 dy) (up2 g 1 3 xs1)) ∧ ((0 < r3) → (Tr n (W0 dy) r3) ∧ Runs miX9_at d [.ref r3, I_ x2] n (W0 dy) (up2 g 1 3 xs1) (fun v n' S' g' => V miX11_read (d + 1) 31 [(0, .ref 1), (1, I_ x1), (2, I_ x2), (3, .ref r3)] (v.toList ++ []) n' S' g' 0 0 P)))) : V miX11_read (d + 1) 12 [(0, .ref 1), (1, I_ x1), (2, I_ x2), (3, .ref r3)] [I_ xs1, .ref 1] n (W0 dy) g 0 0 P := by
  have c1 := h.1
  have h := h.2
  refine v_putI 8 rfl fl11_25_10 (al 1 rfl hn) (wk1 dy) (by decide) rfl (wc1_3 dy) c1 ?_
  refine v_aload_n 9 0 rfl rfl rfl ?_
  refine v_gI 10 rfl fl11_25_10.r (al 1 rfl hn) (wk1 dy) (by decide) rfl (wc1_3 dy) (x := xs1) rfl ?_
  refine v_rng fun w2 => ?_
  have p3 : i3 (xs1) := rI w2 (q := 3) (al 1 rfl hn) (wk1 dy) rfl rfl
  refine v_if_ne 11 rfl (tgt := 34) rfl p3 (fun q4 => ?_) (fun q4 => ?_)
  · have h := h.1 q4
    refine v_ldc2 (v := (-1)) 18 rfl (tbG_in (List.mem_append_right _ (List.mem_of_getElem? (i := 312) (by decide +kernel))) rfl) ?_
    exact v_ret (v := some (L_ ((-1)))) 19 rfl (Nat.zero_le _) (Nat.zero_le _) trivial rfl h
  · have h := h.2 q4
    refine v_aload_n 12 3 rfl rfl rfl ?_
    refine v_ifnull 13 rfl (tgt := 34) rfl (fun q5 => ?_) (fun q5 => ?_)
    · have h := h.1 q5
      refine v_ldc2 (v := (-1)) 18 rfl (tbG_in (List.mem_append_right _ (List.mem_of_getElem? (i := 312) (by decide +kernel))) rfl) ?_
      exact v_ret (v := some (L_ ((-1)))) 19 rfl (Nat.zero_le _) (Nat.zero_le _) trivial rfl h
    · have h := h.2 q5
      refine v_aload_n 14 3 rfl rfl rfl ?_
      refine v_iload_n 15 2 rfl rfl rfl ?_
      have c6 := h.1
      have h := h.2
      refine v_callV (st := []) [I_ x2] 16 rfl lv11_105_read_8 c6.1 c6.2.1 (by decide) rfl (Nat.le_refl _) (Nat.le_refl _) ?_
      exact h
set_option maxHeartbeats 8000000 in
set_option maxRecDepth 4000 in
theorem bX11_read_31 {d n : Nat} {dy : Nat → Shp} {g : Hp} {P : Pst} {x1 : Int} {x2 : Int} {r3 : Nat} {xs0 : Int} (hn : 100 ≤ n) (h : P (some (L_ xs0)) n (W0 dy) g) : V miX11_read (d + 1) 31 [(0, .ref 1), (1, I_ x1), (2, I_ x2), (3, .ref r3)] [L_ xs0] n (W0 dy) g 0 0 P := by
  refine v_goto 17 rfl (tgt := 37) rfl ?_
  exact v_ret (v := some (L_ xs0)) 19 rfl (Nat.zero_le _) (Nat.zero_le _) trivial rfl h
theorem wX11_read {d n : Nat} {dy : Nat → Shp} {g : Hp} {P : Pst} {x1 : Int} {x2 : Int} (hn : 100 ≤ n) (h : Runs miX11_trayAt d [.ref 1, I_ x1] n (W0 dy) g (fun v n' S' g' => V miX11_read (d + 1) 5 [(0, .ref 1), (1, I_ x1), (2, I_ x2)] (v.toList ++ []) n' S' g' 0 0 P)) : Runs miX11_read (d + 1) [.ref 1, I_ x1, I_ x2] n (W0 dy) g P := Runs.of rfl rfl deX11_read (Nat.le_of_ble_eq_true rfl) (bX11_read_0 hn h)
theorem lv11_131_weight_10 : LkV miX11_weight miX11_newWeight 131 1 10 := ⟨⟨⟨tbG_in (List.mem_append_right _ (List.mem_of_getElem? (i := 331) (by decide +kernel))) rfl, tbG_in (List.mem_append_right _ (List.mem_of_getElem? (i := 1) (by decide +kernel))) rfl, tbG_in (List.mem_append_right _ (List.mem_of_getElem? (i := 328) (by decide +kernel))) rfl⟩, ⟨by decide +kernel, by decide +kernel, by decide +kernel⟩, by decide⟩, tbG_in (List.mem_append_right _ (List.mem_of_getElem? (i := 330) (by decide +kernel))) rfl, RX11, TX11, 13, rfl, tbG_in (List.mem_append_left _ (List.mem_of_getElem? (i := 3) (by decide +kernel))) rfl⟩
set_option maxHeartbeats 8000000 in
set_option maxRecDepth 4000 in
theorem bX11_weight_0 {d n : Nat} {dy : Nat → Shp} {g : Hp} {P : Pst} {x1 : Int} (hn : 100 ≤ n) (h : (i3 x1) ∧ Runs miX11_newWeight d [.ref 1, L_ x1] n (W0 dy) g (fun v n' S' g' => V miX11_weight (d + 1) 6 [(0, .ref 1), (1, I_ x1)] (v.toList ++ []) n' S' g' 0 0 P)) : V miX11_weight (d + 1) 0 [(0, .ref 1), (1, I_ x1)] [] n (W0 dy) g 0 0 P := by
  refine v_aload_n 0 0 rfl rfl rfl ?_
  refine v_iload_n 1 1 rfl rfl rfl ?_
  have c1 := h.1
  have h := h.2
  refine v_i2l 2 rfl c1 ?_
  refine v_callV (st := []) [L_ x1] 3 rfl lv11_131_weight_10 (al 1 rfl hn) (wk1 dy) (by decide) rfl (Nat.le_refl _) (Nat.le_refl _) ?_
  exact h
set_option maxHeartbeats 8000000 in
set_option maxRecDepth 4000 in
theorem bX11_weight_6 {d n : Nat} {dy : Nat → Shp} {g : Hp} {P : Pst} {x1 : Int} {xs0 : Int} (hn : 100 ≤ n) (h : P (some (I_ xs0)) n (W0 dy) g) : V miX11_weight (d + 1) 6 [(0, .ref 1), (1, I_ x1)] [I_ xs0] n (W0 dy) g 0 0 P := by
  exact v_ret (v := some (I_ xs0)) 4 rfl (Nat.zero_le _) (Nat.zero_le _) trivial rfl h
theorem wX11_weight {d n : Nat} {dy : Nat → Shp} {g : Hp} {P : Pst} {x1 : Int} (hn : 100 ≤ n) (h : (i3 x1) ∧ Runs miX11_newWeight d [.ref 1, L_ x1] n (W0 dy) g (fun v n' S' g' => V miX11_weight (d + 1) 6 [(0, .ref 1), (1, I_ x1)] (v.toList ++ []) n' S' g' 0 0 P)) : Runs miX11_weight (d + 1) [.ref 1, I_ x1] n (W0 dy) g P := Runs.of rfl rfl deX11_weight (Nat.le_of_ble_eq_true rfl) (bX11_weight_0 hn h)
theorem lv11_81_load_10 : LkV miX11_load miX11_trayAt 81 1 10 := ⟨⟨⟨tbG_in (List.mem_append_right _ (List.mem_of_getElem? (i := 267) (by decide +kernel))) rfl, tbG_in (List.mem_append_right _ (List.mem_of_getElem? (i := 1) (by decide +kernel))) rfl, tbG_in (List.mem_append_right _ (List.mem_of_getElem? (i := 264) (by decide +kernel))) rfl⟩, ⟨by decide +kernel, by decide +kernel, by decide +kernel⟩, by decide⟩, tbG_in (List.mem_append_right _ (List.mem_of_getElem? (i := 266) (by decide +kernel))) rfl, RX11, TX11, 13, rfl, tbG_in (List.mem_append_left _ (List.mem_of_getElem? (i := 0) (by decide +kernel))) rfl⟩
theorem ls11_97_load : LkS miX11_load miX11_placeStatus 97 2 := ⟨⟨⟨tbG_in (List.mem_append_right _ (List.mem_of_getElem? (i := 289) (by decide +kernel))) rfl, tbG_in (List.mem_append_right _ (List.mem_of_getElem? (i := 1) (by decide +kernel))) rfl, tbG_in (List.mem_append_right _ (List.mem_of_getElem? (i := 287) (by decide +kernel))) rfl⟩, ⟨by decide +kernel, by decide +kernel, by decide +kernel⟩, by decide⟩, tbG_in (List.mem_append_right _ (List.mem_of_getElem? (i := 288) (by decide +kernel))) rfl⟩
theorem lv11_135_load_10 : LkV miX11_load miX11_none 135 1 10 := ⟨⟨⟨tbG_in (List.mem_append_right _ (List.mem_of_getElem? (i := 336) (by decide +kernel))) rfl, tbG_in (List.mem_append_right _ (List.mem_of_getElem? (i := 1) (by decide +kernel))) rfl, tbG_in (List.mem_append_right _ (List.mem_of_getElem? (i := 333) (by decide +kernel))) rfl⟩, ⟨by decide +kernel, by decide +kernel, by decide +kernel⟩, by decide⟩, tbG_in (List.mem_append_right _ (List.mem_of_getElem? (i := 335) (by decide +kernel))) rfl, RX11, TX11, 13, rfl, tbG_in (List.mem_append_left _ (List.mem_of_getElem? (i := 4) (by decide +kernel))) rfl⟩
theorem lv11_105_load_8 : LkV miX11_load miX9_at 105 1 8 := ⟨⟨⟨tbG_in (List.mem_append_right _ (List.mem_of_getElem? (i := 310) (by decide +kernel))) rfl, tbG_in (List.mem_append_right _ (List.mem_of_getElem? (i := 8) (by decide +kernel))) rfl, tbG_in (List.mem_append_right _ (List.mem_of_getElem? (i := 307) (by decide +kernel))) rfl⟩, ⟨by decide +kernel, by decide +kernel, by decide +kernel⟩, by decide⟩, tbG_in (List.mem_append_right _ (List.mem_of_getElem? (i := 308) (by decide +kernel))) rfl, RX9, TX9, 3, rfl, tbG_in (List.mem_append_right _ (List.mem_of_getElem? (i := 309) (by decide +kernel))) rfl⟩
theorem lv11_131_load_10 : LkV miX11_load miX11_newWeight 131 1 10 := ⟨⟨⟨tbG_in (List.mem_append_right _ (List.mem_of_getElem? (i := 331) (by decide +kernel))) rfl, tbG_in (List.mem_append_right _ (List.mem_of_getElem? (i := 1) (by decide +kernel))) rfl, tbG_in (List.mem_append_right _ (List.mem_of_getElem? (i := 328) (by decide +kernel))) rfl⟩, ⟨by decide +kernel, by decide +kernel, by decide +kernel⟩, by decide⟩, tbG_in (List.mem_append_right _ (List.mem_of_getElem? (i := 330) (by decide +kernel))) rfl, RX11, TX11, 13, rfl, tbG_in (List.mem_append_left _ (List.mem_of_getElem? (i := 3) (by decide +kernel))) rfl⟩
set_option maxHeartbeats 8000000 in
set_option maxRecDepth 4000 in
theorem bX11_load_0 {d n : Nat} {dy : Nat → Shp} {g : Hp} {P : Pst} {x1 : Int} {x2 : Int} (hn : 100 ≤ n) (h : Runs miX11_trayAt d [.ref 1, I_ x1] n (W0 dy) g (fun v n' S' g' => V miX11_load (d + 1) 5 [(0, .ref 1), (1, I_ x1), (2, I_ x2)] (v.toList ++ []) n' S' g' 0 0 P)) : V miX11_load (d + 1) 0 [(0, .ref 1), (1, I_ x1), (2, I_ x2)] [] n (W0 dy) g 0 0 P := by
  refine v_aload_n 0 0 rfl rfl rfl ?_
  refine v_iload_n 1 1 rfl rfl rfl ?_
  refine v_callV (st := []) [I_ x1] 2 rfl lv11_81_load_10 (al 1 rfl hn) (wk1 dy) (by decide) rfl (Nat.le_refl _) (Nat.le_refl _) ?_
  exact h
set_option maxHeartbeats 8000000 in
set_option maxRecDepth 4000 in
theorem bX11_load_5 {d n : Nat} {dy : Nat → Shp} {g : Hp} {P : Pst} {x1 : Int} {x2 : Int} {rs0 : Nat} (hn : 100 ≤ n) (h : Runs miX11_placeStatus d [.ref rs0, I_ x2] n (W0 dy) g (fun v n' S' g' => V miX11_load (d + 1) 11 [(0, .ref 1), (1, I_ x1), (2, I_ x2), (3, .ref rs0)] (v.toList ++ []) n' S' g' 0 0 P)) : V miX11_load (d + 1) 5 [(0, .ref 1), (1, I_ x1), (2, I_ x2)] [.ref rs0] n (W0 dy) g 0 0 P := by
  refine v_astore_n 3 [1, 2, 3, 0] rfl rfl (by decide) rfl ?_
  refine v_aload_n 4 3 rfl rfl rfl ?_
  refine v_iload_n 5 2 rfl rfl rfl ?_
  refine v_callS (st := []) [.ref rs0, I_ x2] 6 rfl ls11_97_load rfl (Nat.lt_of_lt_of_le (by decide) hn) (Nat.le_refl _) (Nat.le_refl _) ?_
  exact h
set_option maxHeartbeats 8000000 in
set_option maxRecDepth 4000 in
theorem bX11_load_11 {d n : Nat} {dy : Nat → Shp} {g : Hp} {P : Pst} {x1 : Int} {x2 : Int} {r3 : Nat} {xs0 : Int} (hn : 100 ≤ n) (h : (i3 xs0) ∧ ((xs0 ≠ 0) → Runs miX11_none d [.ref 1, I_ xs0] n (W0 dy) g (fun v n' S' g' => V miX11_load (d + 1) 28 [(0, .ref 1), (1, I_ x1), (2, I_ x2), (3, .ref r3), (4, I_ xs0)] (v.toList ++ []) n' S' g' 0 0 P)) ∧ ((xs0 = 0) → ((0 < r3) → (Tr n (W0 dy) r3) ∧ Runs miX9_at d [.ref r3, I_ x2] n (W0 dy) g (fun v n' S' g' => V miX11_load (d + 1) 35 [(0, .ref 1), (1, I_ x1), (2, I_ x2), (3, .ref r3), (4, I_ xs0)] (v.toList ++ [.ref 1]) n' S' g' 0 0 P)) ∧ ((r3 = 0) → Runs miX11_none d [.ref 1, I_ xs0] n (W0 dy) g (fun v n' S' g' => V miX11_load (d + 1) 28 [(0, .ref 1), (1, I_ x1), (2, I_ x2), (3, .ref r3), (4, I_ xs0)] (v.toList ++ []) n' S' g' 0 0 P)))) : V miX11_load (d + 1) 11 [(0, .ref 1), (1, I_ x1), (2, I_ x2), (3, .ref r3)] [I_ xs0] n (W0 dy) g 0 0 P := by
  refine v_istore 7 [1, 2, 3, 4, 0] rfl (by decide) rfl ?_
  refine v_iload 8 4 rfl rfl ?_
  have c1 := h.1
  have h := h.2
  refine v_if_ne 9 rfl (tgt := 22) rfl c1 (fun q2 => ?_) (fun q2 => ?_)
  · have h := h.1 q2
    refine v_aload_n 12 0 rfl rfl rfl ?_
    refine v_iload 13 4 rfl rfl ?_
    refine v_callV (st := []) [I_ xs0] 14 rfl lv11_135_load_10 (al 1 rfl hn) (wk1 dy) (by decide) rfl (Nat.le_refl _) (Nat.le_refl _) ?_
    exact h
  · have h := h.2 q2
    refine v_aload_n 10 3 rfl rfl rfl ?_
    refine v_ifnonnull 11 rfl (tgt := 29) rfl (fun q3 => ?_) (fun q3 => ?_)
    · have h := h.1 q3
      refine v_aload_n 16 0 rfl rfl rfl ?_
      refine v_aload_n 17 3 rfl rfl rfl ?_
      refine v_iload_n 18 2 rfl rfl rfl ?_
      have c4 := h.1
      have h := h.2
      refine v_callV (st := [.ref 1]) [I_ x2] 19 rfl lv11_105_load_8 c4.1 c4.2.1 (by decide) rfl (Nat.le_refl _) (Nat.le_refl _) ?_
      exact h
    · have h := h.2 q3
      refine v_aload_n 12 0 rfl rfl rfl ?_
      refine v_iload 13 4 rfl rfl ?_
      refine v_callV (st := []) [I_ xs0] 14 rfl lv11_135_load_10 (al 1 rfl hn) (wk1 dy) (by decide) rfl (Nat.le_refl _) (Nat.le_refl _) ?_
      exact h
set_option maxHeartbeats 8000000 in
set_option maxRecDepth 4000 in
theorem bX11_load_28 {d n : Nat} {dy : Nat → Shp} {g : Hp} {P : Pst} {x1 : Int} {x2 : Int} {r3 : Nat} {x4 : Int} {xs0 : Int} (hn : 100 ≤ n) (h : P (some (I_ xs0)) n (W0 dy) g) : V miX11_load (d + 1) 28 [(0, .ref 1), (1, I_ x1), (2, I_ x2), (3, .ref r3), (4, I_ x4)] [I_ xs0] n (W0 dy) g 0 0 P := by
  exact v_ret (v := some (I_ xs0)) 15 rfl (Nat.zero_le _) (Nat.zero_le _) trivial rfl h
set_option maxHeartbeats 8000000 in
set_option maxRecDepth 4000 in
theorem bX11_load_35 {d n : Nat} {dy : Nat → Shp} {g : Hp} {P : Pst} {x1 : Int} {x2 : Int} {r3 : Nat} {x4 : Int} {xs1 : Int} (hn : 100 ≤ n) (h : Runs miX11_newWeight d [.ref 1, L_ xs1] n (W0 dy) g (fun v n' S' g' => V miX11_load (d + 1) 38 [(0, .ref 1), (1, I_ x1), (2, I_ x2), (3, .ref r3), (4, I_ x4)] (v.toList ++ []) n' S' g' 0 0 P)) : V miX11_load (d + 1) 35 [(0, .ref 1), (1, I_ x1), (2, I_ x2), (3, .ref r3), (4, I_ x4)] [L_ xs1, .ref 1] n (W0 dy) g 0 0 P := by
  refine v_callV (st := []) [L_ xs1] 20 rfl lv11_131_load_10 (al 1 rfl hn) (wk1 dy) (by decide) rfl (Nat.le_refl _) (Nat.le_refl _) ?_
  exact h
set_option maxHeartbeats 8000000 in
set_option maxRecDepth 4000 in
theorem bX11_load_38 {d n : Nat} {dy : Nat → Shp} {g : Hp} {P : Pst} {x1 : Int} {x2 : Int} {r3 : Nat} {x4 : Int} {xs0 : Int} (hn : 100 ≤ n) (h : P (some (I_ xs0)) n (W0 dy) g) : V miX11_load (d + 1) 38 [(0, .ref 1), (1, I_ x1), (2, I_ x2), (3, .ref r3), (4, I_ x4)] [I_ xs0] n (W0 dy) g 0 0 P := by
  exact v_ret (v := some (I_ xs0)) 21 rfl (Nat.zero_le _) (Nat.zero_le _) trivial rfl h
theorem wX11_load {d n : Nat} {dy : Nat → Shp} {g : Hp} {P : Pst} {x1 : Int} {x2 : Int} (hn : 100 ≤ n) (h : Runs miX11_trayAt d [.ref 1, I_ x1] n (W0 dy) g (fun v n' S' g' => V miX11_load (d + 1) 5 [(0, .ref 1), (1, I_ x1), (2, I_ x2)] (v.toList ++ []) n' S' g' 0 0 P)) : Runs miX11_load (d + 1) [.ref 1, I_ x1, I_ x2] n (W0 dy) g P := Runs.of rfl rfl deX11_load (Nat.le_of_ble_eq_true rfl) (bX11_load_0 hn h)
theorem lv11_163_part_10 : LkV miX11_part miX11_partAt 163 1 10 := ⟨⟨⟨tbG_in (List.mem_append_right _ (List.mem_of_getElem? (i := 600) (by decide +kernel))) rfl, tbG_in (List.mem_append_right _ (List.mem_of_getElem? (i := 1) (by decide +kernel))) rfl, tbG_in (List.mem_append_right _ (List.mem_of_getElem? (i := 597) (by decide +kernel))) rfl⟩, ⟨by decide +kernel, by decide +kernel, by decide +kernel⟩, by decide⟩, tbG_in (List.mem_append_right _ (List.mem_of_getElem? (i := 599) (by decide +kernel))) rfl, RX11, TX11, 13, rfl, tbG_in (List.mem_append_left _ (List.mem_of_getElem? (i := 13) (by decide +kernel))) rfl⟩
theorem lv11_135_part_10 : LkV miX11_part miX11_none 135 1 10 := ⟨⟨⟨tbG_in (List.mem_append_right _ (List.mem_of_getElem? (i := 336) (by decide +kernel))) rfl, tbG_in (List.mem_append_right _ (List.mem_of_getElem? (i := 1) (by decide +kernel))) rfl, tbG_in (List.mem_append_right _ (List.mem_of_getElem? (i := 333) (by decide +kernel))) rfl⟩, ⟨by decide +kernel, by decide +kernel, by decide +kernel⟩, by decide⟩, tbG_in (List.mem_append_right _ (List.mem_of_getElem? (i := 335) (by decide +kernel))) rfl, RX11, TX11, 13, rfl, tbG_in (List.mem_append_left _ (List.mem_of_getElem? (i := 4) (by decide +kernel))) rfl⟩
theorem ls11_167_part : LkS miX11_part miX11_partTold 167 2 := ⟨⟨⟨tbG_in (List.mem_append_right _ (List.mem_of_getElem? (i := 603) (by decide +kernel))) rfl, tbG_in (List.mem_append_right _ (List.mem_of_getElem? (i := 1) (by decide +kernel))) rfl, tbG_in (List.mem_append_right _ (List.mem_of_getElem? (i := 601) (by decide +kernel))) rfl⟩, ⟨by decide +kernel, by decide +kernel, by decide +kernel⟩, by decide⟩, tbG_in (List.mem_append_right _ (List.mem_of_getElem? (i := 602) (by decide +kernel))) rfl⟩
set_option maxHeartbeats 8000000 in
set_option maxRecDepth 4000 in
theorem bX11_part_0 {d n : Nat} {dy : Nat → Shp} {g : Hp} {P : Pst} {x1 : Int} {x2 : Int} (hn : 100 ≤ n) (h : Runs miX11_partAt d [.ref 1, I_ x1] n (W0 dy) g (fun v n' S' g' => V miX11_part (d + 1) 5 [(0, .ref 1), (1, I_ x1), (2, I_ x2)] (v.toList ++ []) n' S' g' 0 0 P)) : V miX11_part (d + 1) 0 [(0, .ref 1), (1, I_ x1), (2, I_ x2)] [] n (W0 dy) g 0 0 P := by
  refine v_aload_n 0 0 rfl rfl rfl ?_
  refine v_iload_n 1 1 rfl rfl rfl ?_
  refine v_callV (st := []) [I_ x1] 2 rfl lv11_163_part_10 (al 1 rfl hn) (wk1 dy) (by decide) rfl (Nat.le_refl _) (Nat.le_refl _) ?_
  exact h
set_option maxHeartbeats 8000000 in
set_option maxRecDepth 4000 in
theorem bX11_part_5 {d n : Nat} {dy : Nat → Shp} {g : Hp} {P : Pst} {x1 : Int} {x2 : Int} {rs0 : Nat} (hn : 100 ≤ n) (h : ((0 < rs0) → (i3 x2) ∧ ((x2 < 0) → Runs miX11_none d [.ref 1, I_ 7] n (W0 dy) g (fun v n' S' g' => V miX11_part (d + 1) 32 [(0, .ref 1), (1, I_ x1), (2, I_ x2), (3, .ref rs0)] (v.toList ++ []) n' S' g' 0 0 P)) ∧ ((0 ≤ x2) → ((x2 ≤ 6) → Runs miX11_partTold d [.ref rs0, I_ x2] n (W0 dy) (up2 g 1 3 0) (fun v n' S' g' => V miX11_part (d + 1) 43 [(0, .ref 1), (1, I_ x1), (2, I_ x2), (3, .ref rs0)] (v.toList ++ []) n' S' g' 0 0 P)) ∧ ((6 < x2) → Runs miX11_none d [.ref 1, I_ 7] n (W0 dy) g (fun v n' S' g' => V miX11_part (d + 1) 32 [(0, .ref 1), (1, I_ x1), (2, I_ x2), (3, .ref rs0)] (v.toList ++ []) n' S' g' 0 0 P)))) ∧ ((rs0 = 0) → Runs miX11_none d [.ref 1, I_ 2] n (W0 dy) g (fun v n' S' g' => V miX11_part (d + 1) 15 [(0, .ref 1), (1, I_ x1), (2, I_ x2), (3, .ref rs0)] (v.toList ++ []) n' S' g' 0 0 P))) : V miX11_part (d + 1) 5 [(0, .ref 1), (1, I_ x1), (2, I_ x2)] [.ref rs0] n (W0 dy) g 0 0 P := by
  refine v_astore_n 3 [1, 2, 3, 0] rfl rfl (by decide) rfl ?_
  refine v_aload_n 4 3 rfl rfl rfl ?_
  refine v_ifnonnull 5 rfl (tgt := 16) rfl (fun q1 => ?_) (fun q1 => ?_)
  · have h := h.1 q1
    refine v_iload_n 10 2 rfl rfl rfl ?_
    have c2 := h.1
    have h := h.2
    refine v_if_lt 11 rfl (tgt := 26) rfl c2 (fun q3 => ?_) (fun q3 => ?_)
    · have h := h.1 q3
      refine v_aload_n 15 0 rfl rfl rfl ?_
      refine v_bipush 16 rfl (by decide) ?_
      refine v_callV (st := []) [I_ 7] 17 rfl lv11_135_part_10 (al 1 rfl hn) (wk1 dy) (by decide) rfl (Nat.le_refl _) (Nat.le_refl _) ?_
      exact h
    · have h := h.2 q3
      refine v_iload_n 12 2 rfl rfl rfl ?_
      refine v_bipush 13 rfl (by decide) ?_
      refine v_icmp_le 14 rfl (tgt := 33) rfl c2 (by decide) (fun q4 => ?_) (fun q4 => ?_)
      · have h := h.1 q4
        refine v_aload_n 19 0 rfl rfl rfl ?_
        refine v_iconst 20 rfl ?_
        refine v_putI 21 rfl fl11_25_10 (al 1 rfl hn) (wk1 dy) (by decide) rfl (wc1_3 dy) (by decide) ?_
        refine v_aload_n 22 3 rfl rfl rfl ?_
        refine v_iload_n 23 2 rfl rfl rfl ?_
        refine v_callS (st := []) [.ref rs0, I_ x2] 24 rfl ls11_167_part rfl (Nat.lt_of_lt_of_le (by decide) hn) (Nat.le_refl _) (Nat.le_refl _) ?_
        exact h
      · have h := h.2 q4
        refine v_aload_n 15 0 rfl rfl rfl ?_
        refine v_bipush 16 rfl (by decide) ?_
        refine v_callV (st := []) [I_ 7] 17 rfl lv11_135_part_10 (al 1 rfl hn) (wk1 dy) (by decide) rfl (Nat.le_refl _) (Nat.le_refl _) ?_
        exact h
  · have h := h.2 q1
    refine v_aload_n 6 0 rfl rfl rfl ?_
    refine v_iconst 7 rfl ?_
    refine v_callV (st := []) [I_ 2] 8 rfl lv11_135_part_10 (al 1 rfl hn) (wk1 dy) (by decide) rfl (Nat.le_refl _) (Nat.le_refl _) ?_
    exact h
set_option maxHeartbeats 8000000 in
set_option maxRecDepth 4000 in
theorem bX11_part_15 {d n : Nat} {dy : Nat → Shp} {g : Hp} {P : Pst} {x1 : Int} {x2 : Int} {r3 : Nat} {xs0 : Int} (hn : 100 ≤ n) (h : P (some (I_ xs0)) n (W0 dy) g) : V miX11_part (d + 1) 15 [(0, .ref 1), (1, I_ x1), (2, I_ x2), (3, .ref r3)] [I_ xs0] n (W0 dy) g 0 0 P := by
  exact v_ret (v := some (I_ xs0)) 9 rfl (Nat.zero_le _) (Nat.zero_le _) trivial rfl h
set_option maxHeartbeats 8000000 in
set_option maxRecDepth 4000 in
theorem bX11_part_32 {d n : Nat} {dy : Nat → Shp} {g : Hp} {P : Pst} {x1 : Int} {x2 : Int} {r3 : Nat} {xs0 : Int} (hn : 100 ≤ n) (h : P (some (I_ xs0)) n (W0 dy) g) : V miX11_part (d + 1) 32 [(0, .ref 1), (1, I_ x1), (2, I_ x2), (3, .ref r3)] [I_ xs0] n (W0 dy) g 0 0 P := by
  exact v_ret (v := some (I_ xs0)) 18 rfl (Nat.zero_le _) (Nat.zero_le _) trivial rfl h
set_option maxHeartbeats 8000000 in
set_option maxRecDepth 4000 in
theorem bX11_part_43 {d n : Nat} {dy : Nat → Shp} {g : Hp} {P : Pst} {x1 : Int} {x2 : Int} {r3 : Nat} {xs0 : Int} (hn : 100 ≤ n) (h : P (some (I_ xs0)) n (W0 dy) g) : V miX11_part (d + 1) 43 [(0, .ref 1), (1, I_ x1), (2, I_ x2), (3, .ref r3)] [I_ xs0] n (W0 dy) g 0 0 P := by
  exact v_ret (v := some (I_ xs0)) 25 rfl (Nat.zero_le _) (Nat.zero_le _) trivial rfl h
theorem wX11_part {d n : Nat} {dy : Nat → Shp} {g : Hp} {P : Pst} {x1 : Int} {x2 : Int} (hn : 100 ≤ n) (h : Runs miX11_partAt d [.ref 1, I_ x1] n (W0 dy) g (fun v n' S' g' => V miX11_part (d + 1) 5 [(0, .ref 1), (1, I_ x1), (2, I_ x2)] (v.toList ++ []) n' S' g' 0 0 P)) : Runs miX11_part (d + 1) [.ref 1, I_ x1, I_ x2] n (W0 dy) g P := Runs.of rfl rfl deX11_part (Nat.le_of_ble_eq_true rfl) (bX11_part_0 hn h)
theorem lv11_171_rodAt_10 : LkV miX11_rodAt miX11_rodGiven 171 1 10 := ⟨⟨⟨tbG_in (List.mem_append_right _ (List.mem_of_getElem? (i := 617) (by decide +kernel))) rfl, tbG_in (List.mem_append_right _ (List.mem_of_getElem? (i := 1) (by decide +kernel))) rfl, tbG_in (List.mem_append_right _ (List.mem_of_getElem? (i := 614) (by decide +kernel))) rfl⟩, ⟨by decide +kernel, by decide +kernel, by decide +kernel⟩, by decide⟩, tbG_in (List.mem_append_right _ (List.mem_of_getElem? (i := 616) (by decide +kernel))) rfl, RX11, TX11, 13, rfl, tbG_in (List.mem_append_left _ (List.mem_of_getElem? (i := 14) (by decide +kernel))) rfl⟩
theorem lv11_135_rodAt_10 : LkV miX11_rodAt miX11_none 135 1 10 := ⟨⟨⟨tbG_in (List.mem_append_right _ (List.mem_of_getElem? (i := 336) (by decide +kernel))) rfl, tbG_in (List.mem_append_right _ (List.mem_of_getElem? (i := 1) (by decide +kernel))) rfl, tbG_in (List.mem_append_right _ (List.mem_of_getElem? (i := 333) (by decide +kernel))) rfl⟩, ⟨by decide +kernel, by decide +kernel, by decide +kernel⟩, by decide⟩, tbG_in (List.mem_append_right _ (List.mem_of_getElem? (i := 335) (by decide +kernel))) rfl, RX11, TX11, 13, rfl, tbG_in (List.mem_append_left _ (List.mem_of_getElem? (i := 4) (by decide +kernel))) rfl⟩
theorem ls11_175_rodAt : LkS miX11_rodAt miX11_rodTold 175 2 := ⟨⟨⟨tbG_in (List.mem_append_right _ (List.mem_of_getElem? (i := 623) (by decide +kernel))) rfl, tbG_in (List.mem_append_right _ (List.mem_of_getElem? (i := 1) (by decide +kernel))) rfl, tbG_in (List.mem_append_right _ (List.mem_of_getElem? (i := 621) (by decide +kernel))) rfl⟩, ⟨by decide +kernel, by decide +kernel, by decide +kernel⟩, by decide⟩, tbG_in (List.mem_append_right _ (List.mem_of_getElem? (i := 622) (by decide +kernel))) rfl⟩
set_option maxHeartbeats 8000000 in
set_option maxRecDepth 4000 in
theorem bX11_rodAt_0 {d n : Nat} {dy : Nat → Shp} {g : Hp} {P : Pst} {x1 : Int} {x2 : Int} (hn : 100 ≤ n) (h : Runs miX11_rodGiven d [.ref 1, I_ x1] n (W0 dy) g (fun v n' S' g' => V miX11_rodAt (d + 1) 5 [(0, .ref 1), (1, I_ x1), (2, I_ x2)] (v.toList ++ []) n' S' g' 0 0 P)) : V miX11_rodAt (d + 1) 0 [(0, .ref 1), (1, I_ x1), (2, I_ x2)] [] n (W0 dy) g 0 0 P := by
  refine v_aload_n 0 0 rfl rfl rfl ?_
  refine v_iload_n 1 1 rfl rfl rfl ?_
  refine v_callV (st := []) [I_ x1] 2 rfl lv11_171_rodAt_10 (al 1 rfl hn) (wk1 dy) (by decide) rfl (Nat.le_refl _) (Nat.le_refl _) ?_
  exact h
set_option maxHeartbeats 8000000 in
set_option maxRecDepth 4000 in
theorem bX11_rodAt_5 {d n : Nat} {dy : Nat → Shp} {g : Hp} {P : Pst} {x1 : Int} {x2 : Int} {rs0 : Nat} (hn : 100 ≤ n) (h : ((0 < rs0) → (i3 x2) ∧ ((x2 < 0) → Runs miX11_none d [.ref 1, I_ 7] n (W0 dy) g (fun v n' S' g' => V miX11_rodAt (d + 1) 29 [(0, .ref 1), (1, I_ x1), (2, I_ x2), (3, .ref rs0)] (v.toList ++ []) n' S' g' 0 0 P)) ∧ ((0 ≤ x2) → ((x2 ≤ 5) → Runs miX11_rodTold d [.ref rs0, I_ x2] n (W0 dy) g (fun v n' S' g' => V miX11_rodAt (d + 1) 36 [(0, .ref 1), (1, I_ x1), (2, I_ x2), (3, .ref rs0)] (v.toList ++ []) n' S' g' 0 0 P)) ∧ ((5 < x2) → Runs miX11_none d [.ref 1, I_ 7] n (W0 dy) g (fun v n' S' g' => V miX11_rodAt (d + 1) 29 [(0, .ref 1), (1, I_ x1), (2, I_ x2), (3, .ref rs0)] (v.toList ++ []) n' S' g' 0 0 P)))) ∧ ((rs0 = 0) → P (some (L_ ((-1)))) n (W0 dy) g)) : V miX11_rodAt (d + 1) 5 [(0, .ref 1), (1, I_ x1), (2, I_ x2)] [.ref rs0] n (W0 dy) g 0 0 P := by
  refine v_astore_n 3 [1, 2, 3, 0] rfl rfl (by decide) rfl ?_
  refine v_aload_n 4 3 rfl rfl rfl ?_
  refine v_ifnonnull 5 rfl (tgt := 14) rfl (fun q1 => ?_) (fun q1 => ?_)
  · have h := h.1 q1
    refine v_iload_n 8 2 rfl rfl rfl ?_
    have c2 := h.1
    have h := h.2
    refine v_if_lt 9 rfl (tgt := 23) rfl c2 (fun q3 => ?_) (fun q3 => ?_)
    · have h := h.1 q3
      refine v_aload_n 13 0 rfl rfl rfl ?_
      refine v_bipush 14 rfl (by decide) ?_
      refine v_callV (st := []) [I_ 7] 15 rfl lv11_135_rodAt_10 (al 1 rfl hn) (wk1 dy) (by decide) rfl (Nat.le_refl _) (Nat.le_refl _) ?_
      exact h
    · have h := h.2 q3
      refine v_iload_n 10 2 rfl rfl rfl ?_
      refine v_iconst 11 rfl ?_
      refine v_icmp_le 12 rfl (tgt := 31) rfl c2 (by decide) (fun q4 => ?_) (fun q4 => ?_)
      · have h := h.1 q4
        refine v_aload_n 18 3 rfl rfl rfl ?_
        refine v_iload_n 19 2 rfl rfl rfl ?_
        refine v_callS (st := []) [.ref rs0, I_ x2] 20 rfl ls11_175_rodAt rfl (Nat.lt_of_lt_of_le (by decide) hn) (Nat.le_refl _) (Nat.le_refl _) ?_
        exact h
      · have h := h.2 q4
        refine v_aload_n 13 0 rfl rfl rfl ?_
        refine v_bipush 14 rfl (by decide) ?_
        refine v_callV (st := []) [I_ 7] 15 rfl lv11_135_rodAt_10 (al 1 rfl hn) (wk1 dy) (by decide) rfl (Nat.le_refl _) (Nat.le_refl _) ?_
        exact h
  · have h := h.2 q1
    refine v_ldc2 (v := (-1)) 6 rfl (tbG_in (List.mem_append_right _ (List.mem_of_getElem? (i := 312) (by decide +kernel))) rfl) ?_
    exact v_ret (v := some (L_ ((-1)))) 7 rfl (Nat.zero_le _) (Nat.zero_le _) trivial rfl h
set_option maxHeartbeats 8000000 in
set_option maxRecDepth 4000 in
theorem bX11_rodAt_29 {d n : Nat} {dy : Nat → Shp} {g : Hp} {P : Pst} {x1 : Int} {x2 : Int} {r3 : Nat} {xs0 : Int} (hn : 100 ≤ n) (h : (i3 xs0) ∧ P (some (L_ xs0)) n (W0 dy) g) : V miX11_rodAt (d + 1) 29 [(0, .ref 1), (1, I_ x1), (2, I_ x2), (3, .ref r3)] [I_ xs0] n (W0 dy) g 0 0 P := by
  have c1 := h.1
  have h := h.2
  refine v_i2l 16 rfl c1 ?_
  exact v_ret (v := some (L_ xs0)) 17 rfl (Nat.zero_le _) (Nat.zero_le _) trivial rfl h
set_option maxHeartbeats 8000000 in
set_option maxRecDepth 4000 in
theorem bX11_rodAt_36 {d n : Nat} {dy : Nat → Shp} {g : Hp} {P : Pst} {x1 : Int} {x2 : Int} {r3 : Nat} {xs0 : Int} (hn : 100 ≤ n) (h : P (some (L_ xs0)) n (W0 dy) g) : V miX11_rodAt (d + 1) 36 [(0, .ref 1), (1, I_ x1), (2, I_ x2), (3, .ref r3)] [L_ xs0] n (W0 dy) g 0 0 P := by
  exact v_ret (v := some (L_ xs0)) 21 rfl (Nat.zero_le _) (Nat.zero_le _) trivial rfl h
theorem wX11_rodAt {d n : Nat} {dy : Nat → Shp} {g : Hp} {P : Pst} {x1 : Int} {x2 : Int} (hn : 100 ≤ n) (h : Runs miX11_rodGiven d [.ref 1, I_ x1] n (W0 dy) g (fun v n' S' g' => V miX11_rodAt (d + 1) 5 [(0, .ref 1), (1, I_ x1), (2, I_ x2)] (v.toList ++ []) n' S' g' 0 0 P)) : Runs miX11_rodAt (d + 1) [.ref 1, I_ x1, I_ x2] n (W0 dy) g P := Runs.of rfl rfl deX11_rodAt (Nat.le_of_ble_eq_true rfl) (bX11_rodAt_0 hn h)
theorem lv11_163_middle_10 : LkV miX11_middle miX11_partAt 163 1 10 := ⟨⟨⟨tbG_in (List.mem_append_right _ (List.mem_of_getElem? (i := 600) (by decide +kernel))) rfl, tbG_in (List.mem_append_right _ (List.mem_of_getElem? (i := 1) (by decide +kernel))) rfl, tbG_in (List.mem_append_right _ (List.mem_of_getElem? (i := 597) (by decide +kernel))) rfl⟩, ⟨by decide +kernel, by decide +kernel, by decide +kernel⟩, by decide⟩, tbG_in (List.mem_append_right _ (List.mem_of_getElem? (i := 599) (by decide +kernel))) rfl, RX11, TX11, 13, rfl, tbG_in (List.mem_append_left _ (List.mem_of_getElem? (i := 13) (by decide +kernel))) rfl⟩
theorem lv11_135_middle_10 : LkV miX11_middle miX11_none 135 1 10 := ⟨⟨⟨tbG_in (List.mem_append_right _ (List.mem_of_getElem? (i := 336) (by decide +kernel))) rfl, tbG_in (List.mem_append_right _ (List.mem_of_getElem? (i := 1) (by decide +kernel))) rfl, tbG_in (List.mem_append_right _ (List.mem_of_getElem? (i := 333) (by decide +kernel))) rfl⟩, ⟨by decide +kernel, by decide +kernel, by decide +kernel⟩, by decide⟩, tbG_in (List.mem_append_right _ (List.mem_of_getElem? (i := 335) (by decide +kernel))) rfl, RX11, TX11, 13, rfl, tbG_in (List.mem_append_left _ (List.mem_of_getElem? (i := 4) (by decide +kernel))) rfl⟩
theorem lv11_179_middle_3 : LkV miX11_middle miX4_middleAt 179 1 3 := ⟨⟨⟨tbG_in (List.mem_append_right _ (List.mem_of_getElem? (i := 635) (by decide +kernel))) rfl, tbG_in (List.mem_append_right _ (List.mem_of_getElem? (i := 17) (by decide +kernel))) rfl, tbG_in (List.mem_append_right _ (List.mem_of_getElem? (i := 632) (by decide +kernel))) rfl⟩, ⟨by decide +kernel, by decide +kernel, by decide +kernel⟩, by decide⟩, tbG_in (List.mem_append_right _ (List.mem_of_getElem? (i := 633) (by decide +kernel))) rfl, RX4, TX4, 14, rfl, tbG_in (List.mem_append_right _ (List.mem_of_getElem? (i := 634) (by decide +kernel))) rfl⟩
set_option maxHeartbeats 8000000 in
set_option maxRecDepth 4000 in
theorem bX11_middle_0 {d n : Nat} {dy : Nat → Shp} {g : Hp} {P : Pst} {x1 : Int} {x2 : Int} (hn : 100 ≤ n) (h : Runs miX11_partAt d [.ref 1, I_ x1] n (W0 dy) g (fun v n' S' g' => V miX11_middle (d + 1) 5 [(0, .ref 1), (1, I_ x1), (2, I_ x2)] (v.toList ++ []) n' S' g' 0 0 P)) : V miX11_middle (d + 1) 0 [(0, .ref 1), (1, I_ x1), (2, I_ x2)] [] n (W0 dy) g 0 0 P := by
  refine v_aload_n 0 0 rfl rfl rfl ?_
  refine v_iload_n 1 1 rfl rfl rfl ?_
  refine v_callV (st := []) [I_ x1] 2 rfl lv11_163_middle_10 (al 1 rfl hn) (wk1 dy) (by decide) rfl (Nat.le_refl _) (Nat.le_refl _) ?_
  exact h
set_option maxHeartbeats 8000000 in
set_option maxRecDepth 4000 in
theorem bX11_middle_5 {d n : Nat} {dy : Nat → Shp} {g : Hp} {P : Pst} {x1 : Int} {x2 : Int} {rs0 : Nat} (hn : 100 ≤ n) (h : ((0 < rs0) → (rs0 = 0 ∨ Pt n (W0 dy) rs0) ∧ (((isK (W0 dy) rs0 3) = 0) → Runs miX11_none d [.ref 1, I_ 5] n (W0 dy) g (fun v n' S' g' => V miX11_middle (d + 1) 64 [(0, .ref 1), (1, I_ x1), (2, I_ x2), (3, .ref rs0)] (v.toList ++ []) n' S' g' 0 0 P)) ∧ (((isK (W0 dy) rs0 3) ≠ 0) → (Ob n (W0 dy) rs0 3) ∧ (i3 x2) ∧ ((x2 < 0) → Runs miX11_none d [.ref 1, I_ 7] n (W0 dy) g (fun v n' S' g' => V miX11_middle (d + 1) 45 [(0, .ref 1), (1, I_ x1), (2, I_ x2), (3, .ref rs0), (4, .ref rs0)] (v.toList ++ []) n' S' g' 0 0 P)) ∧ ((0 ≤ x2) → ((x2 ≤ 3) → Runs miX4_middleAt d [.ref rs0, I_ x2] n (W0 dy) (up2 g 1 3 0) (fun v n' S' g' => V miX11_middle (d + 1) 58 [(0, .ref 1), (1, I_ x1), (2, I_ x2), (3, .ref rs0), (4, .ref rs0)] (v.toList ++ []) n' S' g' 0 0 P)) ∧ ((3 < x2) → Runs miX11_none d [.ref 1, I_ 7] n (W0 dy) g (fun v n' S' g' => V miX11_middle (d + 1) 45 [(0, .ref 1), (1, I_ x1), (2, I_ x2), (3, .ref rs0), (4, .ref rs0)] (v.toList ++ []) n' S' g' 0 0 P))))) ∧ ((rs0 = 0) → Runs miX11_none d [.ref 1, I_ 2] n (W0 dy) g (fun v n' S' g' => V miX11_middle (d + 1) 15 [(0, .ref 1), (1, I_ x1), (2, I_ x2), (3, .ref rs0)] (v.toList ++ []) n' S' g' 0 0 P))) : V miX11_middle (d + 1) 5 [(0, .ref 1), (1, I_ x1), (2, I_ x2)] [.ref rs0] n (W0 dy) g 0 0 P := by
  refine v_astore_n 3 [1, 2, 3, 0] rfl rfl (by decide) rfl ?_
  refine v_aload_n 4 3 rfl rfl rfl ?_
  refine v_ifnonnull 5 rfl (tgt := 17) rfl (fun q1 => ?_) (fun q1 => ?_)
  · have h := h.1 q1
    refine v_aload_n 11 3 rfl rfl rfl ?_
    have c2 := h.1
    have h := h.2
    refine v_instPlate 12 rfl (tbG_in (List.mem_append_right _ (List.mem_of_getElem? (i := 538) (by decide +kernel))) rfl) c2 ?_
    refine v_if_eq 13 rfl (tgt := 59) rfl (isK_r _ _ _) (fun q3 => ?_) (fun q3 => ?_)
    · have h := h.1 q3
      refine v_aload_n 34 0 rfl rfl rfl ?_
      refine v_iconst 35 rfl ?_
      refine v_callV (st := []) [I_ 5] 36 rfl lv11_135_middle_10 (al 1 rfl hn) (wk1 dy) (by decide) rfl (Nat.le_refl _) (Nat.le_refl _) ?_
      exact h
    · have h := h.2 q3
      refine v_aload_n 14 3 rfl rfl rfl ?_
      have c4 := h.1
      have h := h.2
      refine v_cast (ci := 3) 15 rfl (tbG_in (List.mem_append_right _ (List.mem_of_getElem? (i := 538) (by decide +kernel))) rfl) rfl (by decide) c4 ?_
      refine v_astore 16 [1, 2, 3, 4, 0] rfl (by decide) rfl ?_
      refine v_iload_n 17 2 rfl rfl rfl ?_
      have c5 := h.1
      have h := h.2
      refine v_if_lt 18 rfl (tgt := 39) rfl c5 (fun q6 => ?_) (fun q6 => ?_)
      · have h := h.1 q6
        refine v_aload_n 22 0 rfl rfl rfl ?_
        refine v_bipush 23 rfl (by decide) ?_
        refine v_callV (st := []) [I_ 7] 24 rfl lv11_135_middle_10 (al 1 rfl hn) (wk1 dy) (by decide) rfl (Nat.le_refl _) (Nat.le_refl _) ?_
        exact h
      · have h := h.2 q6
        refine v_iload_n 19 2 rfl rfl rfl ?_
        refine v_iconst 20 rfl ?_
        refine v_icmp_le 21 rfl (tgt := 47) rfl c5 (by decide) (fun q7 => ?_) (fun q7 => ?_)
        · have h := h.1 q7
          refine v_aload_n 27 0 rfl rfl rfl ?_
          refine v_iconst 28 rfl ?_
          refine v_putI 29 rfl fl11_25_10 (al 1 rfl hn) (wk1 dy) (by decide) rfl (wc1_3 dy) (by decide) ?_
          refine v_aload 30 4 rfl rfl ?_
          refine v_iload_n 31 2 rfl rfl rfl ?_
          refine v_callV (st := []) [I_ x2] 32 rfl lv11_179_middle_3 c4.1 c4.2.1 (by decide) rfl (Nat.le_refl _) (Nat.le_refl _) ?_
          exact h
        · have h := h.2 q7
          refine v_aload_n 22 0 rfl rfl rfl ?_
          refine v_bipush 23 rfl (by decide) ?_
          refine v_callV (st := []) [I_ 7] 24 rfl lv11_135_middle_10 (al 1 rfl hn) (wk1 dy) (by decide) rfl (Nat.le_refl _) (Nat.le_refl _) ?_
          exact h
  · have h := h.2 q1
    refine v_aload_n 6 0 rfl rfl rfl ?_
    refine v_iconst 7 rfl ?_
    refine v_callV (st := []) [I_ 2] 8 rfl lv11_135_middle_10 (al 1 rfl hn) (wk1 dy) (by decide) rfl (Nat.le_refl _) (Nat.le_refl _) ?_
    exact h
set_option maxHeartbeats 8000000 in
set_option maxRecDepth 4000 in
theorem bX11_middle_15 {d n : Nat} {dy : Nat → Shp} {g : Hp} {P : Pst} {x1 : Int} {x2 : Int} {r3 : Nat} {xs0 : Int} (hn : 100 ≤ n) (h : (i3 xs0) ∧ P (some (L_ xs0)) n (W0 dy) g) : V miX11_middle (d + 1) 15 [(0, .ref 1), (1, I_ x1), (2, I_ x2), (3, .ref r3)] [I_ xs0] n (W0 dy) g 0 0 P := by
  have c1 := h.1
  have h := h.2
  refine v_i2l 9 rfl c1 ?_
  exact v_ret (v := some (L_ xs0)) 10 rfl (Nat.zero_le _) (Nat.zero_le _) trivial rfl h
set_option maxHeartbeats 8000000 in
set_option maxRecDepth 4000 in
theorem bX11_middle_45 {d n : Nat} {dy : Nat → Shp} {g : Hp} {P : Pst} {x1 : Int} {x2 : Int} {r3 : Nat} {r4 : Nat} {xs0 : Int} (hn : 100 ≤ n) (h : (i3 xs0) ∧ P (some (L_ xs0)) n (W0 dy) g) : V miX11_middle (d + 1) 45 [(0, .ref 1), (1, I_ x1), (2, I_ x2), (3, .ref r3), (4, .ref r4)] [I_ xs0] n (W0 dy) g 0 0 P := by
  have c1 := h.1
  have h := h.2
  refine v_i2l 25 rfl c1 ?_
  exact v_ret (v := some (L_ xs0)) 26 rfl (Nat.zero_le _) (Nat.zero_le _) trivial rfl h
set_option maxHeartbeats 8000000 in
set_option maxRecDepth 4000 in
theorem bX11_middle_58 {d n : Nat} {dy : Nat → Shp} {g : Hp} {P : Pst} {x1 : Int} {x2 : Int} {r3 : Nat} {r4 : Nat} {xs0 : Int} (hn : 100 ≤ n) (h : P (some (L_ xs0)) n (W0 dy) g) : V miX11_middle (d + 1) 58 [(0, .ref 1), (1, I_ x1), (2, I_ x2), (3, .ref r3), (4, .ref r4)] [L_ xs0] n (W0 dy) g 0 0 P := by
  exact v_ret (v := some (L_ xs0)) 33 rfl (Nat.zero_le _) (Nat.zero_le _) trivial rfl h
set_option maxHeartbeats 8000000 in
set_option maxRecDepth 4000 in
theorem bX11_middle_64 {d n : Nat} {dy : Nat → Shp} {g : Hp} {P : Pst} {x1 : Int} {x2 : Int} {r3 : Nat} {xs0 : Int} (hn : 100 ≤ n) (h : (i3 xs0) ∧ P (some (L_ xs0)) n (W0 dy) g) : V miX11_middle (d + 1) 64 [(0, .ref 1), (1, I_ x1), (2, I_ x2), (3, .ref r3)] [I_ xs0] n (W0 dy) g 0 0 P := by
  have c1 := h.1
  have h := h.2
  refine v_i2l 37 rfl c1 ?_
  exact v_ret (v := some (L_ xs0)) 38 rfl (Nat.zero_le _) (Nat.zero_le _) trivial rfl h
theorem wX11_middle {d n : Nat} {dy : Nat → Shp} {g : Hp} {P : Pst} {x1 : Int} {x2 : Int} (hn : 100 ≤ n) (h : Runs miX11_partAt d [.ref 1, I_ x1] n (W0 dy) g (fun v n' S' g' => V miX11_middle (d + 1) 5 [(0, .ref 1), (1, I_ x1), (2, I_ x2)] (v.toList ++ []) n' S' g' 0 0 P)) : Runs miX11_middle (d + 1) [.ref 1, I_ x1, I_ x2] n (W0 dy) g P := Runs.of rfl rfl deX11_middle (Nat.le_of_ble_eq_true rfl) (bX11_middle_0 hn h)
theorem fl11_186_5 : FR RX11 186 5 1 := ⟨RX6, TX6, 16, "MobileMaker$Rod", rfl, rfl, by decide, kf5, tbG_in (List.mem_append_right _ (List.mem_of_getElem? (i := 354) (by decide +kernel))) rfl, Or.inr (tbG_in (List.mem_append_right _ (List.mem_of_getElem? (i := 355) (by decide +kernel))) rfl)⟩
theorem fl11_196_3 : FL RX11 196 3 3 false (.object "MobileMaker$Rod") := ⟨RX4, TX4, 14, "MobileMaker$Part", rfl, rfl, by decide, kf3, tbG_in (List.mem_append_right _ (List.mem_of_getElem? (i := 369) (by decide +kernel))) rfl, Or.inl rfl, rfl, by decide +kernel, ⟨tyX4, tyX4_ok⟩, nmX4, fun h => by cases h⟩
theorem fl11_196_5 : FL RX11 196 5 3 false (.object "MobileMaker$Rod") := ⟨RX6, TX6, 16, "MobileMaker$Part", rfl, rfl, by decide, kf5, tbG_in (List.mem_append_right _ (List.mem_of_getElem? (i := 369) (by decide +kernel))) rfl, Or.inl rfl, rfl, by decide +kernel, ⟨tyX6, tyX6_ok⟩, nmX6, fun h => by cases h⟩
theorem fl11_196_9 : FL RX11 196 9 3 false (.object "MobileMaker$Rod") := ⟨RX10, TX10, 10, "MobileMaker$Part", rfl, rfl, by decide, kf9, tbG_in (List.mem_append_right _ (List.mem_of_getElem? (i := 369) (by decide +kernel))) rfl, Or.inl rfl, rfl, by decide +kernel, ⟨tyX10, tyX10_ok⟩, nmX10, fun h => by cases h⟩
theorem fl11_207_3 : FL RX11 207 3 5 false .int := ⟨RX4, TX4, 14, "MobileMaker$Part", rfl, rfl, by decide, kf3, tbG_in (List.mem_append_right _ (List.mem_of_getElem? (i := 381) (by decide +kernel))) rfl, Or.inl rfl, rfl, by decide +kernel, ⟨tyX4, tyX4_ok⟩, nmX4, fun h => by cases h⟩
theorem fl11_207_5 : FL RX11 207 5 5 false .int := ⟨RX6, TX6, 16, "MobileMaker$Part", rfl, rfl, by decide, kf5, tbG_in (List.mem_append_right _ (List.mem_of_getElem? (i := 381) (by decide +kernel))) rfl, Or.inl rfl, rfl, by decide +kernel, ⟨tyX6, tyX6_ok⟩, nmX6, fun h => by cases h⟩
theorem fl11_207_9 : FL RX11 207 9 5 false .int := ⟨RX10, TX10, 10, "MobileMaker$Part", rfl, rfl, by decide, kf9, tbG_in (List.mem_append_right _ (List.mem_of_getElem? (i := 381) (by decide +kernel))) rfl, Or.inl rfl, rfl, by decide +kernel, ⟨tyX10, tyX10_ok⟩, nmX10, fun h => by cases h⟩
theorem lv11_163_hang_10 : LkV miX11_hang miX11_partAt 163 1 10 := ⟨⟨⟨tbG_in (List.mem_append_right _ (List.mem_of_getElem? (i := 600) (by decide +kernel))) rfl, tbG_in (List.mem_append_right _ (List.mem_of_getElem? (i := 1) (by decide +kernel))) rfl, tbG_in (List.mem_append_right _ (List.mem_of_getElem? (i := 597) (by decide +kernel))) rfl⟩, ⟨by decide +kernel, by decide +kernel, by decide +kernel⟩, by decide⟩, tbG_in (List.mem_append_right _ (List.mem_of_getElem? (i := 599) (by decide +kernel))) rfl, RX11, TX11, 13, rfl, tbG_in (List.mem_append_left _ (List.mem_of_getElem? (i := 13) (by decide +kernel))) rfl⟩
theorem lv11_85_hang_10 : LkV miX11_hang miX11_refuses 85 1 10 := ⟨⟨⟨tbG_in (List.mem_append_right _ (List.mem_of_getElem? (i := 271) (by decide +kernel))) rfl, tbG_in (List.mem_append_right _ (List.mem_of_getElem? (i := 1) (by decide +kernel))) rfl, tbG_in (List.mem_append_right _ (List.mem_of_getElem? (i := 268) (by decide +kernel))) rfl⟩, ⟨by decide +kernel, by decide +kernel, by decide +kernel⟩, by decide⟩, tbG_in (List.mem_append_right _ (List.mem_of_getElem? (i := 270) (by decide +kernel))) rfl, RX11, TX11, 13, rfl, tbG_in (List.mem_append_left _ (List.mem_of_getElem? (i := 1) (by decide +kernel))) rfl⟩
theorem ls11_182_hang : LkS miX11_hang miX11_asRod 182 1 := ⟨⟨⟨tbG_in (List.mem_append_right _ (List.mem_of_getElem? (i := 620) (by decide +kernel))) rfl, tbG_in (List.mem_append_right _ (List.mem_of_getElem? (i := 1) (by decide +kernel))) rfl, tbG_in (List.mem_append_right _ (List.mem_of_getElem? (i := 618) (by decide +kernel))) rfl⟩, ⟨by decide +kernel, by decide +kernel, by decide +kernel⟩, by decide⟩, tbG_in (List.mem_append_right _ (List.mem_of_getElem? (i := 619) (by decide +kernel))) rfl⟩
theorem ls11_189_hang : LkS miX11_hang miX11_isThread 189 1 := ⟨⟨⟨tbG_in (List.mem_append_right _ (List.mem_of_getElem? (i := 642) (by decide +kernel))) rfl, tbG_in (List.mem_append_right _ (List.mem_of_getElem? (i := 1) (by decide +kernel))) rfl, tbG_in (List.mem_append_right _ (List.mem_of_getElem? (i := 640) (by decide +kernel))) rfl⟩, ⟨by decide +kernel, by decide +kernel, by decide +kernel⟩, by decide⟩, tbG_in (List.mem_append_right _ (List.mem_of_getElem? (i := 641) (by decide +kernel))) rfl⟩
theorem ls11_192_hang : LkS miX11_hang miX11_isAbove 192 2 := ⟨⟨⟨tbG_in (List.mem_append_right _ (List.mem_of_getElem? (i := 645) (by decide +kernel))) rfl, tbG_in (List.mem_append_right _ (List.mem_of_getElem? (i := 1) (by decide +kernel))) rfl, tbG_in (List.mem_append_right _ (List.mem_of_getElem? (i := 643) (by decide +kernel))) rfl⟩, ⟨by decide +kernel, by decide +kernel, by decide +kernel⟩, by decide⟩, tbG_in (List.mem_append_right _ (List.mem_of_getElem? (i := 644) (by decide +kernel))) rfl⟩
theorem lv11_200_hang_5 : LkV miX11_hang miX6_side 200 1 5 := ⟨⟨⟨tbG_in (List.mem_append_right _ (List.mem_of_getElem? (i := 627) (by decide +kernel))) rfl, tbG_in (List.mem_append_right _ (List.mem_of_getElem? (i := 14) (by decide +kernel))) rfl, tbG_in (List.mem_append_right _ (List.mem_of_getElem? (i := 624) (by decide +kernel))) rfl⟩, ⟨by decide +kernel, by decide +kernel, by decide +kernel⟩, by decide⟩, tbG_in (List.mem_append_right _ (List.mem_of_getElem? (i := 625) (by decide +kernel))) rfl, RX6, TX6, 16, rfl, tbG_in (List.mem_append_right _ (List.mem_of_getElem? (i := 626) (by decide +kernel))) rfl⟩
theorem lv11_203_hang_5 : LkV miX11_hang miX6_bear 203 2 5 := ⟨⟨⟨tbG_in (List.mem_append_right _ (List.mem_of_getElem? (i := 649) (by decide +kernel))) rfl, tbG_in (List.mem_append_right _ (List.mem_of_getElem? (i := 14) (by decide +kernel))) rfl, tbG_in (List.mem_append_right _ (List.mem_of_getElem? (i := 646) (by decide +kernel))) rfl⟩, ⟨by decide +kernel, by decide +kernel, by decide +kernel⟩, by decide⟩, tbG_in (List.mem_append_right _ (List.mem_of_getElem? (i := 647) (by decide +kernel))) rfl, RX6, TX6, 16, rfl, tbG_in (List.mem_append_right _ (List.mem_of_getElem? (i := 648) (by decide +kernel))) rfl⟩
theorem lv11_93_hang_10 : LkV miX11_hang miX11_allows 93 0 10 := ⟨⟨⟨tbG_in (List.mem_append_right _ (List.mem_of_getElem? (i := 282) (by decide +kernel))) rfl, tbG_in (List.mem_append_right _ (List.mem_of_getElem? (i := 1) (by decide +kernel))) rfl, tbG_in (List.mem_append_right _ (List.mem_of_getElem? (i := 279) (by decide +kernel))) rfl⟩, ⟨by decide +kernel, by decide +kernel, by decide +kernel⟩, by decide⟩, tbG_in (List.mem_append_right _ (List.mem_of_getElem? (i := 281) (by decide +kernel))) rfl, RX11, TX11, 13, rfl, tbG_in (List.mem_append_left _ (List.mem_of_getElem? (i := 2) (by decide +kernel))) rfl⟩
set_option maxHeartbeats 8000000 in
set_option maxRecDepth 4000 in
theorem bX11_hang_0 {d n : Nat} {dy : Nat → Shp} {g : Hp} {P : Pst} {x1 : Int} {x2 : Int} {x3 : Int} {x4 : Int} (hn : 100 ≤ n) (h : Runs miX11_partAt d [.ref 1, I_ x1] n (W0 dy) g (fun v n' S' g' => V miX11_hang (d + 1) 5 [(0, .ref 1), (1, I_ x1), (2, I_ x2), (3, I_ x3), (4, I_ x4)] (v.toList ++ []) n' S' g' 0 0 P)) : V miX11_hang (d + 1) 0 [(0, .ref 1), (1, I_ x1), (2, I_ x2), (3, I_ x3), (4, I_ x4)] [] n (W0 dy) g 0 0 P := by
  refine v_aload_n 0 0 rfl rfl rfl ?_
  refine v_iload_n 1 1 rfl rfl rfl ?_
  refine v_callV (st := []) [I_ x1] 2 rfl lv11_163_hang_10 (al 1 rfl hn) (wk1 dy) (by decide) rfl (Nat.le_refl _) (Nat.le_refl _) ?_
  exact h
set_option maxHeartbeats 8000000 in
set_option maxRecDepth 4000 in
theorem bX11_hang_5 {d n : Nat} {dy : Nat → Shp} {g : Hp} {P : Pst} {x1 : Int} {x2 : Int} {x3 : Int} {x4 : Int} {rs0 : Nat} (hn : 100 ≤ n) (h : Runs miX11_partAt d [.ref 1, I_ x2] n (W0 dy) g (fun v n' S' g' => V miX11_hang (d + 1) 12 [(0, .ref 1), (1, I_ x1), (2, I_ x2), (3, I_ x3), (4, I_ x4), (5, .ref rs0)] (v.toList ++ []) n' S' g' 0 0 P)) : V miX11_hang (d + 1) 5 [(0, .ref 1), (1, I_ x1), (2, I_ x2), (3, I_ x3), (4, I_ x4)] [.ref rs0] n (W0 dy) g 0 0 P := by
  refine v_astore 3 [1, 2, 3, 4, 5, 0] rfl (by decide) rfl ?_
  refine v_aload_n 4 0 rfl rfl rfl ?_
  refine v_iload_n 5 2 rfl rfl rfl ?_
  refine v_callV (st := []) [I_ x2] 6 rfl lv11_163_hang_10 (al 1 rfl hn) (wk1 dy) (by decide) rfl (Nat.le_refl _) (Nat.le_refl _) ?_
  exact h
set_option maxHeartbeats 8000000 in
set_option maxRecDepth 4000 in
theorem bX11_hang_12 {d n : Nat} {dy : Nat → Shp} {g : Hp} {P : Pst} {x1 : Int} {x2 : Int} {x3 : Int} {x4 : Int} {r5 : Nat} {rs0 : Nat} (hn : 100 ≤ n) (h : ((r5 = 0) → Runs miX11_refuses d [.ref 1, I_ 2] n (W0 dy) g (fun v n' S' g' => V miX11_hang (d + 1) 29 [(0, .ref 1), (1, I_ x1), (2, I_ x2), (3, I_ x3), (4, I_ x4), (5, .ref r5), (6, .ref rs0)] (v.toList ++ []) n' S' g' 0 0 P)) ∧ ((0 < r5) → ((0 < rs0) → Runs miX11_asRod d [.ref rs0] n (W0 dy) g (fun v n' S' g' => V miX11_hang (d + 1) 35 [(0, .ref 1), (1, I_ x1), (2, I_ x2), (3, I_ x3), (4, I_ x4), (5, .ref r5), (6, .ref rs0)] (v.toList ++ []) n' S' g' 0 0 P)) ∧ ((rs0 = 0) → Runs miX11_refuses d [.ref 1, I_ 2] n (W0 dy) g (fun v n' S' g' => V miX11_hang (d + 1) 29 [(0, .ref 1), (1, I_ x1), (2, I_ x2), (3, I_ x3), (4, I_ x4), (5, .ref r5), (6, .ref rs0)] (v.toList ++ []) n' S' g' 0 0 P)))) : V miX11_hang (d + 1) 12 [(0, .ref 1), (1, I_ x1), (2, I_ x2), (3, I_ x3), (4, I_ x4), (5, .ref r5)] [.ref rs0] n (W0 dy) g 0 0 P := by
  refine v_astore 7 [1, 2, 3, 4, 5, 6, 0] rfl (by decide) rfl ?_
  refine v_aload 8 5 rfl rfl ?_
  refine v_ifnull 9 rfl (tgt := 24) rfl (fun q1 => ?_) (fun q1 => ?_)
  · have h := h.1 q1
    refine v_aload_n 12 0 rfl rfl rfl ?_
    refine v_iconst 13 rfl ?_
    refine v_callV (st := []) [I_ 2] 14 rfl lv11_85_hang_10 (al 1 rfl hn) (wk1 dy) (by decide) rfl (Nat.le_refl _) (Nat.le_refl _) ?_
    exact h
  · have h := h.2 q1
    refine v_aload 10 6 rfl rfl ?_
    refine v_ifnonnull 11 rfl (tgt := 30) rfl (fun q2 => ?_) (fun q2 => ?_)
    · have h := h.1 q2
      refine v_aload 16 6 rfl rfl ?_
      refine v_callS (st := []) [.ref rs0] 17 rfl ls11_182_hang rfl (Nat.lt_of_lt_of_le (by decide) hn) (Nat.le_refl _) (Nat.le_refl _) ?_
      exact h
    · have h := h.2 q2
      refine v_aload_n 12 0 rfl rfl rfl ?_
      refine v_iconst 13 rfl ?_
      refine v_callV (st := []) [I_ 2] 14 rfl lv11_85_hang_10 (al 1 rfl hn) (wk1 dy) (by decide) rfl (Nat.le_refl _) (Nat.le_refl _) ?_
      exact h
set_option maxHeartbeats 8000000 in
set_option maxRecDepth 4000 in
theorem bX11_hang_29 {d n : Nat} {dy : Nat → Shp} {g : Hp} {P : Pst} {x1 : Int} {x2 : Int} {x3 : Int} {x4 : Int} {r5 : Nat} {r6 : Nat} {xs0 : Int} (hn : 100 ≤ n) (h : (xs0 = 0 ∨ xs0 = 1) ∧ P (some (I_ xs0)) n (W0 dy) g) : V miX11_hang (d + 1) 29 [(0, .ref 1), (1, I_ x1), (2, I_ x2), (3, I_ x3), (4, I_ x4), (5, .ref r5), (6, .ref r6)] [I_ xs0] n (W0 dy) g 0 0 P := by
  have c1 := h.1
  have h := h.2
  exact v_ret (v := some (I_ xs0)) 15 rfl (Nat.zero_le _) (Nat.zero_le _) (rokZ c1) rfl h
set_option maxHeartbeats 8000000 in
set_option maxRecDepth 4000 in
theorem bX11_hang_35 {d n : Nat} {dy : Nat → Shp} {g : Hp} {P : Pst} {x1 : Int} {x2 : Int} {x3 : Int} {x4 : Int} {r5 : Nat} {r6 : Nat} {rs0 : Nat} (hn : 100 ≤ n) (h : ((rs0 = 0) → Runs miX11_refuses d [.ref 1, I_ 5] n (W0 dy) g (fun v n' S' g' => V miX11_hang (d + 1) 64 [(0, .ref 1), (1, I_ x1), (2, I_ x2), (3, I_ x3), (4, I_ x4), (5, .ref r5), (6, .ref r6), (7, .ref rs0)] (v.toList ++ []) n' S' g' 0 0 P)) ∧ ((0 < rs0) → (Ob n (W0 dy) rs0 5) ∧ (((g rs0 1) ≠ 3) → (i3 x3) ∧ ((x3 = 0) → Runs miX11_isThread d [I_ x4] n (W0 dy) g (fun v n' S' g' => V miX11_hang (d + 1) 79 [(0, .ref 1), (1, I_ x1), (2, I_ x2), (3, I_ x3), (4, I_ x4), (5, .ref r5), (6, .ref r6), (7, .ref rs0)] (v.toList ++ []) n' S' g' 0 0 P)) ∧ ((x3 ≠ 0) → ((x3 ≠ 1) → Runs miX11_refuses d [.ref 1, I_ 7] n (W0 dy) g (fun v n' S' g' => V miX11_hang (d + 1) 105 [(0, .ref 1), (1, I_ x1), (2, I_ x2), (3, I_ x3), (4, I_ x4), (5, .ref r5), (6, .ref r6), (7, .ref rs0)] (v.toList ++ []) n' S' g' 0 0 P)) ∧ ((x3 = 1) → Runs miX11_isThread d [I_ x4] n (W0 dy) g (fun v n' S' g' => V miX11_hang (d + 1) 79 [(0, .ref 1), (1, I_ x1), (2, I_ x2), (3, I_ x3), (4, I_ x4), (5, .ref r5), (6, .ref r6), (7, .ref rs0)] (v.toList ++ []) n' S' g' 0 0 P)))) ∧ (((g rs0 1) = 3) → Runs miX11_asRod d [.ref r5] n (W0 dy) g (fun v n' S' g' => V miX11_hang (d + 1) 56 [(0, .ref 1), (1, I_ x1), (2, I_ x2), (3, I_ x3), (4, I_ x4), (5, .ref r5), (6, .ref r6), (7, .ref rs0)] (v.toList ++ []) n' S' g' 0 0 P)))) : V miX11_hang (d + 1) 35 [(0, .ref 1), (1, I_ x1), (2, I_ x2), (3, I_ x3), (4, I_ x4), (5, .ref r5), (6, .ref r6)] [.ref rs0] n (W0 dy) g 0 0 P := by
  refine v_astore 18 [1, 2, 3, 4, 5, 6, 7, 0] rfl (by decide) rfl ?_
  refine v_aload 19 7 rfl rfl ?_
  refine v_ifnull 20 rfl (tgt := 59) rfl (fun q1 => ?_) (fun q1 => ?_)
  · have h := h.1 q1
    refine v_aload_n 28 0 rfl rfl rfl ?_
    refine v_iconst 29 rfl ?_
    refine v_callV (st := []) [I_ 5] 30 rfl lv11_85_hang_10 (al 1 rfl hn) (wk1 dy) (by decide) rfl (Nat.le_refl _) (Nat.le_refl _) ?_
    exact h
  · have h := h.2 q1
    refine v_aload 21 7 rfl rfl ?_
    have c2 := h.1
    have h := h.2
    refine v_gI 22 rfl fl11_186_5 c2.1 c2.2.1 (by decide) rfl (c2.2.2 1) (x := g rs0 1) rfl ?_
    refine v_rng fun w3 => ?_
    have p4 : i3 (g rs0 1) := rI w3 (q := 1) c2.1 c2.2.1 rfl rfl
    refine v_iconst 23 rfl ?_
    refine v_icmp_ne 24 rfl (tgt := 65) rfl p4 (by decide) (fun q5 => ?_) (fun q5 => ?_)
    · have h := h.1 q5
      refine v_iload_n 32 3 rfl rfl rfl ?_
      have c6 := h.1
      have h := h.2
      refine v_if_eq 33 rfl (tgt := 74) rfl c6 (fun q7 => ?_) (fun q7 => ?_)
      · have h := h.1 q7
        refine v_iload 37 4 rfl rfl ?_
        refine v_callS (st := []) [I_ x4] 38 rfl ls11_189_hang rfl (Nat.lt_of_lt_of_le (by decide) hn) (Nat.le_refl _) (Nat.le_refl _) ?_
        exact h
      · have h := h.2 q7
        refine v_iload_n 34 3 rfl rfl rfl ?_
        refine v_iconst 35 rfl ?_
        refine v_icmp_ne 36 rfl (tgt := 99) rfl c6 (by decide) (fun q8 => ?_) (fun q8 => ?_)
        · have h := h.1 q8
          refine v_aload_n 47 0 rfl rfl rfl ?_
          refine v_bipush 48 rfl (by decide) ?_
          refine v_callV (st := []) [I_ 7] 49 rfl lv11_85_hang_10 (al 1 rfl hn) (wk1 dy) (by decide) rfl (Nat.le_refl _) (Nat.le_refl _) ?_
          exact h
        · have h := h.2 q8
          refine v_iload 37 4 rfl rfl ?_
          refine v_callS (st := []) [I_ x4] 38 rfl ls11_189_hang rfl (Nat.lt_of_lt_of_le (by decide) hn) (Nat.le_refl _) (Nat.le_refl _) ?_
          exact h
    · have h := h.2 q5
      refine v_aload 25 5 rfl rfl ?_
      refine v_callS (st := []) [.ref r5] 26 rfl ls11_182_hang rfl (Nat.lt_of_lt_of_le (by decide) hn) (Nat.le_refl _) (Nat.le_refl _) ?_
      exact h
set_option maxHeartbeats 8000000 in
set_option maxRecDepth 4000 in
theorem bX11_hang_56 {d n : Nat} {dy : Nat → Shp} {g : Hp} {P : Pst} {x1 : Int} {x2 : Int} {x3 : Int} {x4 : Int} {r5 : Nat} {r6 : Nat} {r7 : Nat} {rs0 : Nat} (hn : 100 ≤ n) (h : ((rs0 = 0) → (i3 x3) ∧ ((x3 = 0) → Runs miX11_isThread d [I_ x4] n (W0 dy) g (fun v n' S' g' => V miX11_hang (d + 1) 79 [(0, .ref 1), (1, I_ x1), (2, I_ x2), (3, I_ x3), (4, I_ x4), (5, .ref r5), (6, .ref r6), (7, .ref r7)] (v.toList ++ []) n' S' g' 0 0 P)) ∧ ((x3 ≠ 0) → ((x3 ≠ 1) → Runs miX11_refuses d [.ref 1, I_ 7] n (W0 dy) g (fun v n' S' g' => V miX11_hang (d + 1) 105 [(0, .ref 1), (1, I_ x1), (2, I_ x2), (3, I_ x3), (4, I_ x4), (5, .ref r5), (6, .ref r6), (7, .ref r7)] (v.toList ++ []) n' S' g' 0 0 P)) ∧ ((x3 = 1) → Runs miX11_isThread d [I_ x4] n (W0 dy) g (fun v n' S' g' => V miX11_hang (d + 1) 79 [(0, .ref 1), (1, I_ x1), (2, I_ x2), (3, I_ x3), (4, I_ x4), (5, .ref r5), (6, .ref r6), (7, .ref r7)] (v.toList ++ []) n' S' g' 0 0 P)))) ∧ ((0 < rs0) → Runs miX11_refuses d [.ref 1, I_ 5] n (W0 dy) g (fun v n' S' g' => V miX11_hang (d + 1) 64 [(0, .ref 1), (1, I_ x1), (2, I_ x2), (3, I_ x3), (4, I_ x4), (5, .ref r5), (6, .ref r6), (7, .ref r7)] (v.toList ++ []) n' S' g' 0 0 P))) : V miX11_hang (d + 1) 56 [(0, .ref 1), (1, I_ x1), (2, I_ x2), (3, I_ x3), (4, I_ x4), (5, .ref r5), (6, .ref r6), (7, .ref r7)] [.ref rs0] n (W0 dy) g 0 0 P := by
  refine v_ifnull 27 rfl (tgt := 65) rfl (fun q1 => ?_) (fun q1 => ?_)
  · have h := h.1 q1
    refine v_iload_n 32 3 rfl rfl rfl ?_
    have c2 := h.1
    have h := h.2
    refine v_if_eq 33 rfl (tgt := 74) rfl c2 (fun q3 => ?_) (fun q3 => ?_)
    · have h := h.1 q3
      refine v_iload 37 4 rfl rfl ?_
      refine v_callS (st := []) [I_ x4] 38 rfl ls11_189_hang rfl (Nat.lt_of_lt_of_le (by decide) hn) (Nat.le_refl _) (Nat.le_refl _) ?_
      exact h
    · have h := h.2 q3
      refine v_iload_n 34 3 rfl rfl rfl ?_
      refine v_iconst 35 rfl ?_
      refine v_icmp_ne 36 rfl (tgt := 99) rfl c2 (by decide) (fun q4 => ?_) (fun q4 => ?_)
      · have h := h.1 q4
        refine v_aload_n 47 0 rfl rfl rfl ?_
        refine v_bipush 48 rfl (by decide) ?_
        refine v_callV (st := []) [I_ 7] 49 rfl lv11_85_hang_10 (al 1 rfl hn) (wk1 dy) (by decide) rfl (Nat.le_refl _) (Nat.le_refl _) ?_
        exact h
      · have h := h.2 q4
        refine v_iload 37 4 rfl rfl ?_
        refine v_callS (st := []) [I_ x4] 38 rfl ls11_189_hang rfl (Nat.lt_of_lt_of_le (by decide) hn) (Nat.le_refl _) (Nat.le_refl _) ?_
        exact h
  · have h := h.2 q1
    refine v_aload_n 28 0 rfl rfl rfl ?_
    refine v_iconst 29 rfl ?_
    refine v_callV (st := []) [I_ 5] 30 rfl lv11_85_hang_10 (al 1 rfl hn) (wk1 dy) (by decide) rfl (Nat.le_refl _) (Nat.le_refl _) ?_
    exact h
set_option maxHeartbeats 8000000 in
set_option maxRecDepth 4000 in
theorem bX11_hang_64 {d n : Nat} {dy : Nat → Shp} {g : Hp} {P : Pst} {x1 : Int} {x2 : Int} {x3 : Int} {x4 : Int} {r5 : Nat} {r6 : Nat} {r7 : Nat} {xs0 : Int} (hn : 100 ≤ n) (h : (xs0 = 0 ∨ xs0 = 1) ∧ P (some (I_ xs0)) n (W0 dy) g) : V miX11_hang (d + 1) 64 [(0, .ref 1), (1, I_ x1), (2, I_ x2), (3, I_ x3), (4, I_ x4), (5, .ref r5), (6, .ref r6), (7, .ref r7)] [I_ xs0] n (W0 dy) g 0 0 P := by
  have c1 := h.1
  have h := h.2
  exact v_ret (v := some (I_ xs0)) 31 rfl (Nat.zero_le _) (Nat.zero_le _) (rokZ c1) rfl h
set_option maxHeartbeats 8000000 in
set_option maxRecDepth 4000 in
theorem bX11_hang_79 {d n : Nat} {dy : Nat → Shp} {g : Hp} {P : Pst} {x1 : Int} {x2 : Int} {x3 : Int} {x4 : Int} {r5 : Nat} {r6 : Nat} {r7 : Nat} {xs0 : Int} (hn : 100 ≤ n) (h : (i3 xs0) ∧ ((xs0 = 0) → Runs miX11_refuses d [.ref 1, I_ 7] n (W0 dy) g (fun v n' S' g' => V miX11_hang (d + 1) 105 [(0, .ref 1), (1, I_ x1), (2, I_ x2), (3, I_ x3), (4, I_ x4), (5, .ref r5), (6, .ref r6), (7, .ref r7)] (v.toList ++ []) n' S' g' 0 0 P)) ∧ ((xs0 ≠ 0) → ((r7 = r5) → Runs miX11_refuses d [.ref 1, I_ 7] n (W0 dy) g (fun v n' S' g' => V miX11_hang (d + 1) 105 [(0, .ref 1), (1, I_ x1), (2, I_ x2), (3, I_ x3), (4, I_ x4), (5, .ref r5), (6, .ref r6), (7, .ref r7)] (v.toList ++ []) n' S' g' 0 0 P)) ∧ ((r7 ≠ r5) → Runs miX11_isAbove d [.ref r5, .ref r7] n (W0 dy) g (fun v n' S' g' => V miX11_hang (d + 1) 96 [(0, .ref 1), (1, I_ x1), (2, I_ x2), (3, I_ x3), (4, I_ x4), (5, .ref r5), (6, .ref r6), (7, .ref r7)] (v.toList ++ []) n' S' g' 0 0 P)))) : V miX11_hang (d + 1) 79 [(0, .ref 1), (1, I_ x1), (2, I_ x2), (3, I_ x3), (4, I_ x4), (5, .ref r5), (6, .ref r6), (7, .ref r7)] [I_ xs0] n (W0 dy) g 0 0 P := by
  have c1 := h.1
  have h := h.2
  refine v_if_eq 39 rfl (tgt := 99) rfl c1 (fun q2 => ?_) (fun q2 => ?_)
  · have h := h.1 q2
    refine v_aload_n 47 0 rfl rfl rfl ?_
    refine v_bipush 48 rfl (by decide) ?_
    refine v_callV (st := []) [I_ 7] 49 rfl lv11_85_hang_10 (al 1 rfl hn) (wk1 dy) (by decide) rfl (Nat.le_refl _) (Nat.le_refl _) ?_
    exact h
  · have h := h.2 q2
    refine v_aload 40 7 rfl rfl ?_
    refine v_aload 41 5 rfl rfl ?_
    refine v_acmp_eq 42 rfl (tgt := 99) rfl (fun q3 => ?_) (fun q3 => ?_)
    · have h := h.1 q3
      refine v_aload_n 47 0 rfl rfl rfl ?_
      refine v_bipush 48 rfl (by decide) ?_
      refine v_callV (st := []) [I_ 7] 49 rfl lv11_85_hang_10 (al 1 rfl hn) (wk1 dy) (by decide) rfl (Nat.le_refl _) (Nat.le_refl _) ?_
      exact h
    · have h := h.2 q3
      refine v_aload 43 5 rfl rfl ?_
      refine v_aload 44 7 rfl rfl ?_
      refine v_callS (st := []) [.ref r5, .ref r7] 45 rfl ls11_192_hang rfl (Nat.lt_of_lt_of_le (by decide) hn) (Nat.le_refl _) (Nat.le_refl _) ?_
      exact h
set_option maxHeartbeats 8000000 in
set_option maxRecDepth 4000 in
theorem bX11_hang_96 {d n : Nat} {dy : Nat → Shp} {g : Hp} {P : Pst} {x1 : Int} {x2 : Int} {x3 : Int} {x4 : Int} {r5 : Nat} {r6 : Nat} {r7 : Nat} {xs0 : Int} (hn : 100 ≤ n) (h : (i3 xs0) ∧ ((xs0 = 0) → (Pt n (W0 dy) r5) ∧ ((0 < ((g r5 3).toNat)) → Runs miX11_refuses d [.ref 1, I_ 8] n (W0 dy) g (fun v n' S' g' => V miX11_hang (d + 1) 129 [(0, .ref 1), (1, I_ x1), (2, I_ x2), (3, I_ x3), (4, I_ x4), (5, .ref r5), (6, .ref r6), (7, .ref r7)] (v.toList ++ []) n' S' g' 0 0 P)) ∧ ((((g r5 3).toNat) = 0) → (Ob n (W0 dy) r7 5) ∧ Runs miX6_side d [.ref r7, I_ x3] n (W0 dy) g (fun v n' S' g' => V miX11_hang (d + 1) 120 [(0, .ref 1), (1, I_ x1), (2, I_ x2), (3, I_ x3), (4, I_ x4), (5, .ref r5), (6, .ref r6), (7, .ref r7)] (v.toList ++ []) n' S' g' 0 0 P))) ∧ ((xs0 ≠ 0) → Runs miX11_refuses d [.ref 1, I_ 7] n (W0 dy) g (fun v n' S' g' => V miX11_hang (d + 1) 105 [(0, .ref 1), (1, I_ x1), (2, I_ x2), (3, I_ x3), (4, I_ x4), (5, .ref r5), (6, .ref r6), (7, .ref r7)] (v.toList ++ []) n' S' g' 0 0 P))) : V miX11_hang (d + 1) 96 [(0, .ref 1), (1, I_ x1), (2, I_ x2), (3, I_ x3), (4, I_ x4), (5, .ref r5), (6, .ref r6), (7, .ref r7)] [I_ xs0] n (W0 dy) g 0 0 P := by
  have c1 := h.1
  have h := h.2
  refine v_if_eq 46 rfl (tgt := 106) rfl c1 (fun q2 => ?_) (fun q2 => ?_)
  · have h := h.1 q2
    refine v_aload 51 5 rfl rfl ?_
    have c3 := h.1
    have h := h.2
    refine v_pR 52 rfl ⟨fl11_196_3.r, fl11_196_5.r, fl11_196_9.r⟩ c3 ⟨rfl, rfl, rfl⟩ (x := g r5 3) rfl ?_
    refine v_ifnonnull 53 rfl (tgt := 123) rfl (fun q4 => ?_) (fun q4 => ?_)
    · have h := h.1 q4
      refine v_aload_n 58 0 rfl rfl rfl ?_
      refine v_bipush 59 rfl (by decide) ?_
      refine v_callV (st := []) [I_ 8] 60 rfl lv11_85_hang_10 (al 1 rfl hn) (wk1 dy) (by decide) rfl (Nat.le_refl _) (Nat.le_refl _) ?_
      exact h
    · have h := h.2 q4
      refine v_aload 54 7 rfl rfl ?_
      refine v_iload_n 55 3 rfl rfl rfl ?_
      have c5 := h.1
      have h := h.2
      refine v_callV (st := []) [I_ x3] 56 rfl lv11_200_hang_5 c5.1 c5.2.1 (by decide) rfl (Nat.le_refl _) (Nat.le_refl _) ?_
      exact h
  · have h := h.2 q2
    refine v_aload_n 47 0 rfl rfl rfl ?_
    refine v_bipush 48 rfl (by decide) ?_
    refine v_callV (st := []) [I_ 7] 49 rfl lv11_85_hang_10 (al 1 rfl hn) (wk1 dy) (by decide) rfl (Nat.le_refl _) (Nat.le_refl _) ?_
    exact h
set_option maxHeartbeats 8000000 in
set_option maxRecDepth 4000 in
theorem bX11_hang_105 {d n : Nat} {dy : Nat → Shp} {g : Hp} {P : Pst} {x1 : Int} {x2 : Int} {x3 : Int} {x4 : Int} {r5 : Nat} {r6 : Nat} {r7 : Nat} {xs0 : Int} (hn : 100 ≤ n) (h : (xs0 = 0 ∨ xs0 = 1) ∧ P (some (I_ xs0)) n (W0 dy) g) : V miX11_hang (d + 1) 105 [(0, .ref 1), (1, I_ x1), (2, I_ x2), (3, I_ x3), (4, I_ x4), (5, .ref r5), (6, .ref r6), (7, .ref r7)] [I_ xs0] n (W0 dy) g 0 0 P := by
  have c1 := h.1
  have h := h.2
  exact v_ret (v := some (I_ xs0)) 50 rfl (Nat.zero_le _) (Nat.zero_le _) (rokZ c1) rfl h
set_option maxHeartbeats 8000000 in
set_option maxRecDepth 4000 in
theorem bX11_hang_120 {d n : Nat} {dy : Nat → Shp} {g : Hp} {P : Pst} {x1 : Int} {x2 : Int} {x3 : Int} {x4 : Int} {r5 : Nat} {r6 : Nat} {r7 : Nat} {rs0 : Nat} (hn : 100 ≤ n) (h : ((rs0 = 0) → (Ob n (W0 dy) r7 5) ∧ Runs miX6_bear d [.ref r7, I_ x3, .ref r5] n (W0 dy) g (fun v n' S' g' => V miX11_hang (d + 1) 138 [(0, .ref 1), (1, I_ x1), (2, I_ x2), (3, I_ x3), (4, I_ x4), (5, .ref r5), (6, .ref r6), (7, .ref r7)] (v.toList ++ []) n' S' g' 0 0 P)) ∧ ((0 < rs0) → Runs miX11_refuses d [.ref 1, I_ 8] n (W0 dy) g (fun v n' S' g' => V miX11_hang (d + 1) 129 [(0, .ref 1), (1, I_ x1), (2, I_ x2), (3, I_ x3), (4, I_ x4), (5, .ref r5), (6, .ref r6), (7, .ref r7)] (v.toList ++ []) n' S' g' 0 0 P))) : V miX11_hang (d + 1) 120 [(0, .ref 1), (1, I_ x1), (2, I_ x2), (3, I_ x3), (4, I_ x4), (5, .ref r5), (6, .ref r6), (7, .ref r7)] [.ref rs0] n (W0 dy) g 0 0 P := by
  refine v_ifnull 57 rfl (tgt := 130) rfl (fun q1 => ?_) (fun q1 => ?_)
  · have h := h.1 q1
    refine v_aload 62 7 rfl rfl ?_
    refine v_iload_n 63 3 rfl rfl rfl ?_
    refine v_aload 64 5 rfl rfl ?_
    have c2 := h.1
    have h := h.2
    refine v_callV (st := []) [I_ x3, .ref r5] 65 rfl lv11_203_hang_5 c2.1 c2.2.1 (by decide) rfl (Nat.le_refl _) (Nat.le_refl _) ?_
    exact h
  · have h := h.2 q1
    refine v_aload_n 58 0 rfl rfl rfl ?_
    refine v_bipush 59 rfl (by decide) ?_
    refine v_callV (st := []) [I_ 8] 60 rfl lv11_85_hang_10 (al 1 rfl hn) (wk1 dy) (by decide) rfl (Nat.le_refl _) (Nat.le_refl _) ?_
    exact h
set_option maxHeartbeats 8000000 in
set_option maxRecDepth 4000 in
theorem bX11_hang_129 {d n : Nat} {dy : Nat → Shp} {g : Hp} {P : Pst} {x1 : Int} {x2 : Int} {x3 : Int} {x4 : Int} {r5 : Nat} {r6 : Nat} {r7 : Nat} {xs0 : Int} (hn : 100 ≤ n) (h : (xs0 = 0 ∨ xs0 = 1) ∧ P (some (I_ xs0)) n (W0 dy) g) : V miX11_hang (d + 1) 129 [(0, .ref 1), (1, I_ x1), (2, I_ x2), (3, I_ x3), (4, I_ x4), (5, .ref r5), (6, .ref r6), (7, .ref r7)] [I_ xs0] n (W0 dy) g 0 0 P := by
  have c1 := h.1
  have h := h.2
  exact v_ret (v := some (I_ xs0)) 61 rfl (Nat.zero_le _) (Nat.zero_le _) (rokZ c1) rfl h
set_option maxHeartbeats 8000000 in
set_option maxRecDepth 4000 in
theorem bX11_hang_138 {d n : Nat} {dy : Nat → Shp} {g : Hp} {P : Pst} {x1 : Int} {x2 : Int} {x3 : Int} {x4 : Int} {r5 : Nat} {r6 : Nat} {r7 : Nat} (hn : 100 ≤ n) (h : (Pt n (W0 dy) r5) ∧ (i3 x4) ∧ Runs miX11_allows d [.ref 1] n (W0 dy) (up2 g r5 5 x4) (fun v n' S' g' => V miX11_hang (d + 1) 149 [(0, .ref 1), (1, I_ x1), (2, I_ x2), (3, I_ x3), (4, I_ x4), (5, .ref r5), (6, .ref r6), (7, .ref r7)] (v.toList ++ []) n' S' g' 0 0 P)) : V miX11_hang (d + 1) 138 [(0, .ref 1), (1, I_ x1), (2, I_ x2), (3, I_ x3), (4, I_ x4), (5, .ref r5), (6, .ref r6), (7, .ref r7)] [] n (W0 dy) g 0 0 P := by
  refine v_aload 66 5 rfl rfl ?_
  refine v_iload 67 4 rfl rfl ?_
  have c1 := h.1
  have h := h.2
  have c2 := h.1
  have h := h.2
  refine v_qI 68 rfl ⟨fl11_207_3, fl11_207_5, fl11_207_9⟩ c1 ⟨rfl, rfl, rfl⟩ c2 ?_
  refine v_aload_n 69 0 rfl rfl rfl ?_
  refine v_callV (st := []) [] 70 rfl lv11_93_hang_10 (al 1 rfl hn) (wk1 dy) (by decide) rfl (Nat.le_refl _) (Nat.le_refl _) ?_
  exact h
set_option maxHeartbeats 8000000 in
set_option maxRecDepth 4000 in
theorem bX11_hang_149 {d n : Nat} {dy : Nat → Shp} {g : Hp} {P : Pst} {x1 : Int} {x2 : Int} {x3 : Int} {x4 : Int} {r5 : Nat} {r6 : Nat} {r7 : Nat} {xs0 : Int} (hn : 100 ≤ n) (h : (xs0 = 0 ∨ xs0 = 1) ∧ P (some (I_ xs0)) n (W0 dy) g) : V miX11_hang (d + 1) 149 [(0, .ref 1), (1, I_ x1), (2, I_ x2), (3, I_ x3), (4, I_ x4), (5, .ref r5), (6, .ref r6), (7, .ref r7)] [I_ xs0] n (W0 dy) g 0 0 P := by
  have c1 := h.1
  have h := h.2
  exact v_ret (v := some (I_ xs0)) 71 rfl (Nat.zero_le _) (Nat.zero_le _) (rokZ c1) rfl h
theorem wX11_hang {d n : Nat} {dy : Nat → Shp} {g : Hp} {P : Pst} {x1 : Int} {x2 : Int} {x3 : Int} {x4 : Int} (hn : 100 ≤ n) (h : Runs miX11_partAt d [.ref 1, I_ x1] n (W0 dy) g (fun v n' S' g' => V miX11_hang (d + 1) 5 [(0, .ref 1), (1, I_ x1), (2, I_ x2), (3, I_ x3), (4, I_ x4)] (v.toList ++ []) n' S' g' 0 0 P)) : Runs miX11_hang (d + 1) [.ref 1, I_ x1, I_ x2, I_ x3, I_ x4] n (W0 dy) g P := Runs.of rfl rfl deX11_hang (Nat.le_of_ble_eq_true rfl) (bX11_hang_0 hn h)
theorem lv11_163_take_10 : LkV miX11_take miX11_partAt 163 1 10 := ⟨⟨⟨tbG_in (List.mem_append_right _ (List.mem_of_getElem? (i := 600) (by decide +kernel))) rfl, tbG_in (List.mem_append_right _ (List.mem_of_getElem? (i := 1) (by decide +kernel))) rfl, tbG_in (List.mem_append_right _ (List.mem_of_getElem? (i := 597) (by decide +kernel))) rfl⟩, ⟨by decide +kernel, by decide +kernel, by decide +kernel⟩, by decide⟩, tbG_in (List.mem_append_right _ (List.mem_of_getElem? (i := 599) (by decide +kernel))) rfl, RX11, TX11, 13, rfl, tbG_in (List.mem_append_left _ (List.mem_of_getElem? (i := 13) (by decide +kernel))) rfl⟩
theorem lv11_210_take_3 : LkV miX11_take miX2_comeOff 210 0 3 := ⟨⟨⟨tbG_in (List.mem_append_right _ (List.mem_of_getElem? (i := 660) (by decide +kernel))) rfl, tbG_in (List.mem_append_right _ (List.mem_of_getElem? (i := 12) (by decide +kernel))) rfl, tbG_in (List.mem_append_right _ (List.mem_of_getElem? (i := 654) (by decide +kernel))) rfl⟩, ⟨by decide +kernel, by decide +kernel, by decide +kernel⟩, by decide⟩, tbG_in (List.mem_append_right _ (List.mem_of_getElem? (i := 655) (by decide +kernel))) rfl, RX4, TX4, 14, rfl, tbG_in (List.mem_append_right _ (List.mem_of_getElem? (i := 657) (by decide +kernel))) rfl⟩
theorem lv11_210_take_5 : LkV miX11_take miX2_comeOff 210 0 5 := ⟨⟨⟨tbG_in (List.mem_append_right _ (List.mem_of_getElem? (i := 660) (by decide +kernel))) rfl, tbG_in (List.mem_append_right _ (List.mem_of_getElem? (i := 12) (by decide +kernel))) rfl, tbG_in (List.mem_append_right _ (List.mem_of_getElem? (i := 654) (by decide +kernel))) rfl⟩, ⟨by decide +kernel, by decide +kernel, by decide +kernel⟩, by decide⟩, tbG_in (List.mem_append_right _ (List.mem_of_getElem? (i := 655) (by decide +kernel))) rfl, RX6, TX6, 16, rfl, tbG_in (List.mem_append_right _ (List.mem_of_getElem? (i := 658) (by decide +kernel))) rfl⟩
theorem lv11_210_take_9 : LkV miX11_take miX2_comeOff 210 0 9 := ⟨⟨⟨tbG_in (List.mem_append_right _ (List.mem_of_getElem? (i := 660) (by decide +kernel))) rfl, tbG_in (List.mem_append_right _ (List.mem_of_getElem? (i := 12) (by decide +kernel))) rfl, tbG_in (List.mem_append_right _ (List.mem_of_getElem? (i := 654) (by decide +kernel))) rfl⟩, ⟨by decide +kernel, by decide +kernel, by decide +kernel⟩, by decide⟩, tbG_in (List.mem_append_right _ (List.mem_of_getElem? (i := 655) (by decide +kernel))) rfl, RX10, TX10, 10, rfl, tbG_in (List.mem_append_right _ (List.mem_of_getElem? (i := 659) (by decide +kernel))) rfl⟩
theorem lv11_85_take_10 : LkV miX11_take miX11_refuses 85 1 10 := ⟨⟨⟨tbG_in (List.mem_append_right _ (List.mem_of_getElem? (i := 271) (by decide +kernel))) rfl, tbG_in (List.mem_append_right _ (List.mem_of_getElem? (i := 1) (by decide +kernel))) rfl, tbG_in (List.mem_append_right _ (List.mem_of_getElem? (i := 268) (by decide +kernel))) rfl⟩, ⟨by decide +kernel, by decide +kernel, by decide +kernel⟩, by decide⟩, tbG_in (List.mem_append_right _ (List.mem_of_getElem? (i := 270) (by decide +kernel))) rfl, RX11, TX11, 13, rfl, tbG_in (List.mem_append_left _ (List.mem_of_getElem? (i := 1) (by decide +kernel))) rfl⟩
theorem lv11_93_take_10 : LkV miX11_take miX11_allows 93 0 10 := ⟨⟨⟨tbG_in (List.mem_append_right _ (List.mem_of_getElem? (i := 282) (by decide +kernel))) rfl, tbG_in (List.mem_append_right _ (List.mem_of_getElem? (i := 1) (by decide +kernel))) rfl, tbG_in (List.mem_append_right _ (List.mem_of_getElem? (i := 279) (by decide +kernel))) rfl⟩, ⟨by decide +kernel, by decide +kernel, by decide +kernel⟩, by decide⟩, tbG_in (List.mem_append_right _ (List.mem_of_getElem? (i := 281) (by decide +kernel))) rfl, RX11, TX11, 13, rfl, tbG_in (List.mem_append_left _ (List.mem_of_getElem? (i := 2) (by decide +kernel))) rfl⟩
set_option maxHeartbeats 8000000 in
set_option maxRecDepth 4000 in
theorem bX11_take_0 {d n : Nat} {dy : Nat → Shp} {g : Hp} {P : Pst} {x1 : Int} (hn : 100 ≤ n) (h : Runs miX11_partAt d [.ref 1, I_ x1] n (W0 dy) g (fun v n' S' g' => V miX11_take (d + 1) 5 [(0, .ref 1), (1, I_ x1)] (v.toList ++ []) n' S' g' 0 0 P)) : V miX11_take (d + 1) 0 [(0, .ref 1), (1, I_ x1)] [] n (W0 dy) g 0 0 P := by
  refine v_aload_n 0 0 rfl rfl rfl ?_
  refine v_iload_n 1 1 rfl rfl rfl ?_
  refine v_callV (st := []) [I_ x1] 2 rfl lv11_163_take_10 (al 1 rfl hn) (wk1 dy) (by decide) rfl (Nat.le_refl _) (Nat.le_refl _) ?_
  exact h
set_option maxHeartbeats 8000000 in
set_option maxRecDepth 4000 in
theorem bX11_take_5 {d n : Nat} {dy : Nat → Shp} {g : Hp} {P : Pst} {x1 : Int} {rs0 : Nat} (hn : 100 ≤ n) (h : ((0 < rs0) → (Pt n (W0 dy) rs0) ∧ ((0 < ((g rs0 3).toNat)) → Runs miX2_comeOff d [.ref rs0] n (W0 dy) g (fun v n' S' g' => V miX11_take (d + 1) 34 [(0, .ref 1), (1, I_ x1), (2, .ref rs0)] (v.toList ++ []) n' S' g' 0 0 P)) ∧ ((((g rs0 3).toNat) = 0) → Runs miX11_refuses d [.ref 1, I_ 8] n (W0 dy) g (fun v n' S' g' => V miX11_take (d + 1) 29 [(0, .ref 1), (1, I_ x1), (2, .ref rs0)] (v.toList ++ []) n' S' g' 0 0 P))) ∧ ((rs0 = 0) → Runs miX11_refuses d [.ref 1, I_ 2] n (W0 dy) g (fun v n' S' g' => V miX11_take (d + 1) 15 [(0, .ref 1), (1, I_ x1), (2, .ref rs0)] (v.toList ++ []) n' S' g' 0 0 P))) : V miX11_take (d + 1) 5 [(0, .ref 1), (1, I_ x1)] [.ref rs0] n (W0 dy) g 0 0 P := by
  refine v_astore_n 3 [1, 2, 0] rfl rfl (by decide) rfl ?_
  refine v_aload_n 4 2 rfl rfl rfl ?_
  refine v_ifnonnull 5 rfl (tgt := 16) rfl (fun q1 => ?_) (fun q1 => ?_)
  · have h := h.1 q1
    refine v_aload_n 10 2 rfl rfl rfl ?_
    have c2 := h.1
    have h := h.2
    refine v_pR 11 rfl ⟨fl11_196_3.r, fl11_196_5.r, fl11_196_9.r⟩ c2 ⟨rfl, rfl, rfl⟩ (x := g rs0 3) rfl ?_
    refine v_ifnonnull 12 rfl (tgt := 30) rfl (fun q3 => ?_) (fun q3 => ?_)
    · have h := h.1 q3
      refine v_aload_n 17 2 rfl rfl rfl ?_
      refine v_callP (st := []) [] 18 rfl lv11_210_take_3 lv11_210_take_5 lv11_210_take_9 c2 rfl (Nat.le_refl _) (Nat.le_refl _) ?_
      exact h
    · have h := h.2 q3
      refine v_aload_n 13 0 rfl rfl rfl ?_
      refine v_bipush 14 rfl (by decide) ?_
      refine v_callV (st := []) [I_ 8] 15 rfl lv11_85_take_10 (al 1 rfl hn) (wk1 dy) (by decide) rfl (Nat.le_refl _) (Nat.le_refl _) ?_
      exact h
  · have h := h.2 q1
    refine v_aload_n 6 0 rfl rfl rfl ?_
    refine v_iconst 7 rfl ?_
    refine v_callV (st := []) [I_ 2] 8 rfl lv11_85_take_10 (al 1 rfl hn) (wk1 dy) (by decide) rfl (Nat.le_refl _) (Nat.le_refl _) ?_
    exact h
set_option maxHeartbeats 8000000 in
set_option maxRecDepth 4000 in
theorem bX11_take_15 {d n : Nat} {dy : Nat → Shp} {g : Hp} {P : Pst} {x1 : Int} {r2 : Nat} {xs0 : Int} (hn : 100 ≤ n) (h : (xs0 = 0 ∨ xs0 = 1) ∧ P (some (I_ xs0)) n (W0 dy) g) : V miX11_take (d + 1) 15 [(0, .ref 1), (1, I_ x1), (2, .ref r2)] [I_ xs0] n (W0 dy) g 0 0 P := by
  have c1 := h.1
  have h := h.2
  exact v_ret (v := some (I_ xs0)) 9 rfl (Nat.zero_le _) (Nat.zero_le _) (rokZ c1) rfl h
set_option maxHeartbeats 8000000 in
set_option maxRecDepth 4000 in
theorem bX11_take_29 {d n : Nat} {dy : Nat → Shp} {g : Hp} {P : Pst} {x1 : Int} {r2 : Nat} {xs0 : Int} (hn : 100 ≤ n) (h : (xs0 = 0 ∨ xs0 = 1) ∧ P (some (I_ xs0)) n (W0 dy) g) : V miX11_take (d + 1) 29 [(0, .ref 1), (1, I_ x1), (2, .ref r2)] [I_ xs0] n (W0 dy) g 0 0 P := by
  have c1 := h.1
  have h := h.2
  exact v_ret (v := some (I_ xs0)) 16 rfl (Nat.zero_le _) (Nat.zero_le _) (rokZ c1) rfl h
set_option maxHeartbeats 8000000 in
set_option maxRecDepth 4000 in
theorem bX11_take_34 {d n : Nat} {dy : Nat → Shp} {g : Hp} {P : Pst} {x1 : Int} {r2 : Nat} (hn : 100 ≤ n) (h : Runs miX11_allows d [.ref 1] n (W0 dy) g (fun v n' S' g' => V miX11_take (d + 1) 38 [(0, .ref 1), (1, I_ x1), (2, .ref r2)] (v.toList ++ []) n' S' g' 0 0 P)) : V miX11_take (d + 1) 34 [(0, .ref 1), (1, I_ x1), (2, .ref r2)] [] n (W0 dy) g 0 0 P := by
  refine v_aload_n 19 0 rfl rfl rfl ?_
  refine v_callV (st := []) [] 20 rfl lv11_93_take_10 (al 1 rfl hn) (wk1 dy) (by decide) rfl (Nat.le_refl _) (Nat.le_refl _) ?_
  exact h
set_option maxHeartbeats 8000000 in
set_option maxRecDepth 4000 in
theorem bX11_take_38 {d n : Nat} {dy : Nat → Shp} {g : Hp} {P : Pst} {x1 : Int} {r2 : Nat} {xs0 : Int} (hn : 100 ≤ n) (h : (xs0 = 0 ∨ xs0 = 1) ∧ P (some (I_ xs0)) n (W0 dy) g) : V miX11_take (d + 1) 38 [(0, .ref 1), (1, I_ x1), (2, .ref r2)] [I_ xs0] n (W0 dy) g 0 0 P := by
  have c1 := h.1
  have h := h.2
  exact v_ret (v := some (I_ xs0)) 21 rfl (Nat.zero_le _) (Nat.zero_le _) (rokZ c1) rfl h
theorem wX11_take {d n : Nat} {dy : Nat → Shp} {g : Hp} {P : Pst} {x1 : Int} (hn : 100 ≤ n) (h : Runs miX11_partAt d [.ref 1, I_ x1] n (W0 dy) g (fun v n' S' g' => V miX11_take (d + 1) 5 [(0, .ref 1), (1, I_ x1)] (v.toList ++ []) n' S' g' 0 0 P)) : Runs miX11_take (d + 1) [.ref 1, I_ x1] n (W0 dy) g P := Runs.of rfl rfl deX11_take (Nat.le_of_ble_eq_true rfl) (bX11_take_0 hn h)
theorem lv11_163_thread_10 : LkV miX11_thread miX11_partAt 163 1 10 := ⟨⟨⟨tbG_in (List.mem_append_right _ (List.mem_of_getElem? (i := 600) (by decide +kernel))) rfl, tbG_in (List.mem_append_right _ (List.mem_of_getElem? (i := 1) (by decide +kernel))) rfl, tbG_in (List.mem_append_right _ (List.mem_of_getElem? (i := 597) (by decide +kernel))) rfl⟩, ⟨by decide +kernel, by decide +kernel, by decide +kernel⟩, by decide⟩, tbG_in (List.mem_append_right _ (List.mem_of_getElem? (i := 599) (by decide +kernel))) rfl, RX11, TX11, 13, rfl, tbG_in (List.mem_append_left _ (List.mem_of_getElem? (i := 13) (by decide +kernel))) rfl⟩
theorem ls11_189_thread : LkS miX11_thread miX11_isThread 189 1 := ⟨⟨⟨tbG_in (List.mem_append_right _ (List.mem_of_getElem? (i := 642) (by decide +kernel))) rfl, tbG_in (List.mem_append_right _ (List.mem_of_getElem? (i := 1) (by decide +kernel))) rfl, tbG_in (List.mem_append_right _ (List.mem_of_getElem? (i := 640) (by decide +kernel))) rfl⟩, ⟨by decide +kernel, by decide +kernel, by decide +kernel⟩, by decide⟩, tbG_in (List.mem_append_right _ (List.mem_of_getElem? (i := 641) (by decide +kernel))) rfl⟩
theorem lv11_85_thread_10 : LkV miX11_thread miX11_refuses 85 1 10 := ⟨⟨⟨tbG_in (List.mem_append_right _ (List.mem_of_getElem? (i := 271) (by decide +kernel))) rfl, tbG_in (List.mem_append_right _ (List.mem_of_getElem? (i := 1) (by decide +kernel))) rfl, tbG_in (List.mem_append_right _ (List.mem_of_getElem? (i := 268) (by decide +kernel))) rfl⟩, ⟨by decide +kernel, by decide +kernel, by decide +kernel⟩, by decide⟩, tbG_in (List.mem_append_right _ (List.mem_of_getElem? (i := 270) (by decide +kernel))) rfl, RX11, TX11, 13, rfl, tbG_in (List.mem_append_left _ (List.mem_of_getElem? (i := 1) (by decide +kernel))) rfl⟩
theorem lv11_93_thread_10 : LkV miX11_thread miX11_allows 93 0 10 := ⟨⟨⟨tbG_in (List.mem_append_right _ (List.mem_of_getElem? (i := 282) (by decide +kernel))) rfl, tbG_in (List.mem_append_right _ (List.mem_of_getElem? (i := 1) (by decide +kernel))) rfl, tbG_in (List.mem_append_right _ (List.mem_of_getElem? (i := 279) (by decide +kernel))) rfl⟩, ⟨by decide +kernel, by decide +kernel, by decide +kernel⟩, by decide⟩, tbG_in (List.mem_append_right _ (List.mem_of_getElem? (i := 281) (by decide +kernel))) rfl, RX11, TX11, 13, rfl, tbG_in (List.mem_append_left _ (List.mem_of_getElem? (i := 2) (by decide +kernel))) rfl⟩
set_option maxHeartbeats 8000000 in
set_option maxRecDepth 4000 in
theorem bX11_thread_0 {d n : Nat} {dy : Nat → Shp} {g : Hp} {P : Pst} {x1 : Int} {x2 : Int} (hn : 100 ≤ n) (h : Runs miX11_partAt d [.ref 1, I_ x1] n (W0 dy) g (fun v n' S' g' => V miX11_thread (d + 1) 5 [(0, .ref 1), (1, I_ x1), (2, I_ x2)] (v.toList ++ []) n' S' g' 0 0 P)) : V miX11_thread (d + 1) 0 [(0, .ref 1), (1, I_ x1), (2, I_ x2)] [] n (W0 dy) g 0 0 P := by
  refine v_aload_n 0 0 rfl rfl rfl ?_
  refine v_iload_n 1 1 rfl rfl rfl ?_
  refine v_callV (st := []) [I_ x1] 2 rfl lv11_163_thread_10 (al 1 rfl hn) (wk1 dy) (by decide) rfl (Nat.le_refl _) (Nat.le_refl _) ?_
  exact h
set_option maxHeartbeats 8000000 in
set_option maxRecDepth 4000 in
theorem bX11_thread_5 {d n : Nat} {dy : Nat → Shp} {g : Hp} {P : Pst} {x1 : Int} {x2 : Int} {rs0 : Nat} (hn : 100 ≤ n) (h : ((0 < rs0) → (Pt n (W0 dy) rs0) ∧ ((0 < ((g rs0 3).toNat)) → Runs miX11_isThread d [I_ x2] n (W0 dy) g (fun v n' S' g' => V miX11_thread (d + 1) 34 [(0, .ref 1), (1, I_ x1), (2, I_ x2), (3, .ref rs0)] (v.toList ++ []) n' S' g' 0 0 P)) ∧ ((((g rs0 3).toNat) = 0) → Runs miX11_refuses d [.ref 1, I_ 8] n (W0 dy) g (fun v n' S' g' => V miX11_thread (d + 1) 29 [(0, .ref 1), (1, I_ x1), (2, I_ x2), (3, .ref rs0)] (v.toList ++ []) n' S' g' 0 0 P))) ∧ ((rs0 = 0) → Runs miX11_refuses d [.ref 1, I_ 2] n (W0 dy) g (fun v n' S' g' => V miX11_thread (d + 1) 15 [(0, .ref 1), (1, I_ x1), (2, I_ x2), (3, .ref rs0)] (v.toList ++ []) n' S' g' 0 0 P))) : V miX11_thread (d + 1) 5 [(0, .ref 1), (1, I_ x1), (2, I_ x2)] [.ref rs0] n (W0 dy) g 0 0 P := by
  refine v_astore_n 3 [1, 2, 3, 0] rfl rfl (by decide) rfl ?_
  refine v_aload_n 4 3 rfl rfl rfl ?_
  refine v_ifnonnull 5 rfl (tgt := 16) rfl (fun q1 => ?_) (fun q1 => ?_)
  · have h := h.1 q1
    refine v_aload_n 10 3 rfl rfl rfl ?_
    have c2 := h.1
    have h := h.2
    refine v_pR 11 rfl ⟨fl11_196_3.r, fl11_196_5.r, fl11_196_9.r⟩ c2 ⟨rfl, rfl, rfl⟩ (x := g rs0 3) rfl ?_
    refine v_ifnonnull 12 rfl (tgt := 30) rfl (fun q3 => ?_) (fun q3 => ?_)
    · have h := h.1 q3
      refine v_iload_n 17 2 rfl rfl rfl ?_
      refine v_callS (st := []) [I_ x2] 18 rfl ls11_189_thread rfl (Nat.lt_of_lt_of_le (by decide) hn) (Nat.le_refl _) (Nat.le_refl _) ?_
      exact h
    · have h := h.2 q3
      refine v_aload_n 13 0 rfl rfl rfl ?_
      refine v_bipush 14 rfl (by decide) ?_
      refine v_callV (st := []) [I_ 8] 15 rfl lv11_85_thread_10 (al 1 rfl hn) (wk1 dy) (by decide) rfl (Nat.le_refl _) (Nat.le_refl _) ?_
      exact h
  · have h := h.2 q1
    refine v_aload_n 6 0 rfl rfl rfl ?_
    refine v_iconst 7 rfl ?_
    refine v_callV (st := []) [I_ 2] 8 rfl lv11_85_thread_10 (al 1 rfl hn) (wk1 dy) (by decide) rfl (Nat.le_refl _) (Nat.le_refl _) ?_
    exact h
set_option maxHeartbeats 8000000 in
set_option maxRecDepth 4000 in
theorem bX11_thread_15 {d n : Nat} {dy : Nat → Shp} {g : Hp} {P : Pst} {x1 : Int} {x2 : Int} {r3 : Nat} {xs0 : Int} (hn : 100 ≤ n) (h : (xs0 = 0 ∨ xs0 = 1) ∧ P (some (I_ xs0)) n (W0 dy) g) : V miX11_thread (d + 1) 15 [(0, .ref 1), (1, I_ x1), (2, I_ x2), (3, .ref r3)] [I_ xs0] n (W0 dy) g 0 0 P := by
  have c1 := h.1
  have h := h.2
  exact v_ret (v := some (I_ xs0)) 9 rfl (Nat.zero_le _) (Nat.zero_le _) (rokZ c1) rfl h
set_option maxHeartbeats 8000000 in
set_option maxRecDepth 4000 in
theorem bX11_thread_29 {d n : Nat} {dy : Nat → Shp} {g : Hp} {P : Pst} {x1 : Int} {x2 : Int} {r3 : Nat} {xs0 : Int} (hn : 100 ≤ n) (h : (xs0 = 0 ∨ xs0 = 1) ∧ P (some (I_ xs0)) n (W0 dy) g) : V miX11_thread (d + 1) 29 [(0, .ref 1), (1, I_ x1), (2, I_ x2), (3, .ref r3)] [I_ xs0] n (W0 dy) g 0 0 P := by
  have c1 := h.1
  have h := h.2
  exact v_ret (v := some (I_ xs0)) 16 rfl (Nat.zero_le _) (Nat.zero_le _) (rokZ c1) rfl h
set_option maxHeartbeats 8000000 in
set_option maxRecDepth 4000 in
theorem bX11_thread_34 {d n : Nat} {dy : Nat → Shp} {g : Hp} {P : Pst} {x1 : Int} {x2 : Int} {r3 : Nat} {xs0 : Int} (hn : 100 ≤ n) (h : (i3 xs0) ∧ ((xs0 ≠ 0) → (Pt n (W0 dy) r3) ∧ (i3 x2) ∧ Runs miX11_allows d [.ref 1] n (W0 dy) (up2 g r3 5 x2) (fun v n' S' g' => V miX11_thread (d + 1) 53 [(0, .ref 1), (1, I_ x1), (2, I_ x2), (3, .ref r3)] (v.toList ++ []) n' S' g' 0 0 P)) ∧ ((xs0 = 0) → Runs miX11_refuses d [.ref 1, I_ 7] n (W0 dy) g (fun v n' S' g' => V miX11_thread (d + 1) 43 [(0, .ref 1), (1, I_ x1), (2, I_ x2), (3, .ref r3)] (v.toList ++ []) n' S' g' 0 0 P))) : V miX11_thread (d + 1) 34 [(0, .ref 1), (1, I_ x1), (2, I_ x2), (3, .ref r3)] [I_ xs0] n (W0 dy) g 0 0 P := by
  have c1 := h.1
  have h := h.2
  refine v_if_ne 19 rfl (tgt := 44) rfl c1 (fun q2 => ?_) (fun q2 => ?_)
  · have h := h.1 q2
    refine v_aload_n 24 3 rfl rfl rfl ?_
    refine v_iload_n 25 2 rfl rfl rfl ?_
    have c3 := h.1
    have h := h.2
    have c4 := h.1
    have h := h.2
    refine v_qI 26 rfl ⟨fl11_207_3, fl11_207_5, fl11_207_9⟩ c3 ⟨rfl, rfl, rfl⟩ c4 ?_
    refine v_aload_n 27 0 rfl rfl rfl ?_
    refine v_callV (st := []) [] 28 rfl lv11_93_thread_10 (al 1 rfl hn) (wk1 dy) (by decide) rfl (Nat.le_refl _) (Nat.le_refl _) ?_
    exact h
  · have h := h.2 q2
    refine v_aload_n 20 0 rfl rfl rfl ?_
    refine v_bipush 21 rfl (by decide) ?_
    refine v_callV (st := []) [I_ 7] 22 rfl lv11_85_thread_10 (al 1 rfl hn) (wk1 dy) (by decide) rfl (Nat.le_refl _) (Nat.le_refl _) ?_
    exact h
set_option maxHeartbeats 8000000 in
set_option maxRecDepth 4000 in
theorem bX11_thread_43 {d n : Nat} {dy : Nat → Shp} {g : Hp} {P : Pst} {x1 : Int} {x2 : Int} {r3 : Nat} {xs0 : Int} (hn : 100 ≤ n) (h : (xs0 = 0 ∨ xs0 = 1) ∧ P (some (I_ xs0)) n (W0 dy) g) : V miX11_thread (d + 1) 43 [(0, .ref 1), (1, I_ x1), (2, I_ x2), (3, .ref r3)] [I_ xs0] n (W0 dy) g 0 0 P := by
  have c1 := h.1
  have h := h.2
  exact v_ret (v := some (I_ xs0)) 23 rfl (Nat.zero_le _) (Nat.zero_le _) (rokZ c1) rfl h
set_option maxHeartbeats 8000000 in
set_option maxRecDepth 4000 in
theorem bX11_thread_53 {d n : Nat} {dy : Nat → Shp} {g : Hp} {P : Pst} {x1 : Int} {x2 : Int} {r3 : Nat} {xs0 : Int} (hn : 100 ≤ n) (h : (xs0 = 0 ∨ xs0 = 1) ∧ P (some (I_ xs0)) n (W0 dy) g) : V miX11_thread (d + 1) 53 [(0, .ref 1), (1, I_ x1), (2, I_ x2), (3, .ref r3)] [I_ xs0] n (W0 dy) g 0 0 P := by
  have c1 := h.1
  have h := h.2
  exact v_ret (v := some (I_ xs0)) 29 rfl (Nat.zero_le _) (Nat.zero_le _) (rokZ c1) rfl h
theorem wX11_thread {d n : Nat} {dy : Nat → Shp} {g : Hp} {P : Pst} {x1 : Int} {x2 : Int} (hn : 100 ≤ n) (h : Runs miX11_partAt d [.ref 1, I_ x1] n (W0 dy) g (fun v n' S' g' => V miX11_thread (d + 1) 5 [(0, .ref 1), (1, I_ x1), (2, I_ x2)] (v.toList ++ []) n' S' g' 0 0 P)) : Runs miX11_thread (d + 1) [.ref 1, I_ x1, I_ x2] n (W0 dy) g P := Runs.of rfl rfl deX11_thread (Nat.le_of_ble_eq_true rfl) (bX11_thread_0 hn h)
theorem fl11_214_5 : FL RX11 214 5 12 false .int := ⟨RX6, TX6, 16, "MobileMaker$Rod", rfl, rfl, by decide, kf5, tbG_in (List.mem_append_right _ (List.mem_of_getElem? (i := 454) (by decide +kernel))) rfl, Or.inl rfl, rfl, by decide +kernel, ⟨tyX6, tyX6_ok⟩, nmX6, fun h => by cases h⟩
theorem fl11_217_5 : FL RX11 217 5 13 false .int := ⟨RX6, TX6, 16, "MobileMaker$Rod", rfl, rfl, by decide, kf5, tbG_in (List.mem_append_right _ (List.mem_of_getElem? (i := 457) (by decide +kernel))) rfl, Or.inl rfl, rfl, by decide +kernel, ⟨tyX6, tyX6_ok⟩, nmX6, fun h => by cases h⟩
theorem lv11_171_tied_10 : LkV miX11_tied miX11_rodGiven 171 1 10 := ⟨⟨⟨tbG_in (List.mem_append_right _ (List.mem_of_getElem? (i := 617) (by decide +kernel))) rfl, tbG_in (List.mem_append_right _ (List.mem_of_getElem? (i := 1) (by decide +kernel))) rfl, tbG_in (List.mem_append_right _ (List.mem_of_getElem? (i := 614) (by decide +kernel))) rfl⟩, ⟨by decide +kernel, by decide +kernel, by decide +kernel⟩, by decide⟩, tbG_in (List.mem_append_right _ (List.mem_of_getElem? (i := 616) (by decide +kernel))) rfl, RX11, TX11, 13, rfl, tbG_in (List.mem_append_left _ (List.mem_of_getElem? (i := 14) (by decide +kernel))) rfl⟩
theorem lv11_85_tied_10 : LkV miX11_tied miX11_refuses 85 1 10 := ⟨⟨⟨tbG_in (List.mem_append_right _ (List.mem_of_getElem? (i := 271) (by decide +kernel))) rfl, tbG_in (List.mem_append_right _ (List.mem_of_getElem? (i := 1) (by decide +kernel))) rfl, tbG_in (List.mem_append_right _ (List.mem_of_getElem? (i := 268) (by decide +kernel))) rfl⟩, ⟨by decide +kernel, by decide +kernel, by decide +kernel⟩, by decide⟩, tbG_in (List.mem_append_right _ (List.mem_of_getElem? (i := 270) (by decide +kernel))) rfl, RX11, TX11, 13, rfl, tbG_in (List.mem_append_left _ (List.mem_of_getElem? (i := 1) (by decide +kernel))) rfl⟩
theorem lv11_93_tied_10 : LkV miX11_tied miX11_allows 93 0 10 := ⟨⟨⟨tbG_in (List.mem_append_right _ (List.mem_of_getElem? (i := 282) (by decide +kernel))) rfl, tbG_in (List.mem_append_right _ (List.mem_of_getElem? (i := 1) (by decide +kernel))) rfl, tbG_in (List.mem_append_right _ (List.mem_of_getElem? (i := 279) (by decide +kernel))) rfl⟩, ⟨by decide +kernel, by decide +kernel, by decide +kernel⟩, by decide⟩, tbG_in (List.mem_append_right _ (List.mem_of_getElem? (i := 281) (by decide +kernel))) rfl, RX11, TX11, 13, rfl, tbG_in (List.mem_append_left _ (List.mem_of_getElem? (i := 2) (by decide +kernel))) rfl⟩
set_option maxHeartbeats 8000000 in
set_option maxRecDepth 4000 in
theorem bX11_tied_0 {d n : Nat} {dy : Nat → Shp} {g : Hp} {P : Pst} {x1 : Int} {x2 : Int} {x3 : Int} (hn : 100 ≤ n) (h : Runs miX11_rodGiven d [.ref 1, I_ x1] n (W0 dy) g (fun v n' S' g' => V miX11_tied (d + 1) 5 [(0, .ref 1), (1, I_ x1), (2, I_ x2), (3, I_ x3)] (v.toList ++ []) n' S' g' 0 0 P)) : V miX11_tied (d + 1) 0 [(0, .ref 1), (1, I_ x1), (2, I_ x2), (3, I_ x3)] [] n (W0 dy) g 0 0 P := by
  refine v_aload_n 0 0 rfl rfl rfl ?_
  refine v_iload_n 1 1 rfl rfl rfl ?_
  refine v_callV (st := []) [I_ x1] 2 rfl lv11_171_tied_10 (al 1 rfl hn) (wk1 dy) (by decide) rfl (Nat.le_refl _) (Nat.le_refl _) ?_
  exact h
set_option maxHeartbeats 8000000 in
set_option maxRecDepth 4000 in
theorem bX11_tied_5 {d n : Nat} {dy : Nat → Shp} {g : Hp} {P : Pst} {x1 : Int} {x2 : Int} {x3 : Int} {rs0 : Nat} (hn : 100 ≤ n) (h : ((0 < rs0) → (i3 x3) ∧ ((x3 < 2) → Runs miX11_refuses d [.ref 1, I_ 7] n (W0 dy) g (fun v n' S' g' => V miX11_tied (d + 1) 41 [(0, .ref 1), (1, I_ x1), (2, I_ x2), (3, I_ x3), (4, .ref rs0)] (v.toList ++ []) n' S' g' 0 0 P)) ∧ ((2 ≤ x3) → ((1000000 < x3) → Runs miX11_refuses d [.ref 1, I_ 7] n (W0 dy) g (fun v n' S' g' => V miX11_tied (d + 1) 41 [(0, .ref 1), (1, I_ x1), (2, I_ x2), (3, I_ x3), (4, .ref rs0)] (v.toList ++ []) n' S' g' 0 0 P)) ∧ ((x3 ≤ 1000000) → (i3 x2) ∧ ((x2 < 1) → Runs miX11_refuses d [.ref 1, I_ 7] n (W0 dy) g (fun v n' S' g' => V miX11_tied (d + 1) 41 [(0, .ref 1), (1, I_ x1), (2, I_ x2), (3, I_ x3), (4, .ref rs0)] (v.toList ++ []) n' S' g' 0 0 P)) ∧ ((1 ≤ x2) → ((x2 < x3) → (Ob n (W0 dy) rs0 5) ∧ Runs miX11_allows d [.ref 1] n (W0 dy) (up2 (up2 g rs0 12 x2) rs0 13 x3) (fun v n' S' g' => V miX11_tied (d + 1) 58 [(0, .ref 1), (1, I_ x1), (2, I_ x2), (3, I_ x3), (4, .ref rs0)] (v.toList ++ []) n' S' g' 0 0 P)) ∧ ((x3 ≤ x2) → Runs miX11_refuses d [.ref 1, I_ 7] n (W0 dy) g (fun v n' S' g' => V miX11_tied (d + 1) 41 [(0, .ref 1), (1, I_ x1), (2, I_ x2), (3, I_ x3), (4, .ref rs0)] (v.toList ++ []) n' S' g' 0 0 P)))))) ∧ ((rs0 = 0) → P (some (I_ 0)) n (W0 dy) g)) : V miX11_tied (d + 1) 5 [(0, .ref 1), (1, I_ x1), (2, I_ x2), (3, I_ x3)] [.ref rs0] n (W0 dy) g 0 0 P := by
  refine v_astore 3 [1, 2, 3, 4, 0] rfl (by decide) rfl ?_
  refine v_aload 4 4 rfl rfl ?_
  refine v_ifnonnull 5 rfl (tgt := 14) rfl (fun q1 => ?_) (fun q1 => ?_)
  · have h := h.1 q1
    refine v_iload_n 8 3 rfl rfl rfl ?_
    refine v_iconst 9 rfl ?_
    have c2 := h.1
    have h := h.2
    refine v_icmp_lt 10 rfl (tgt := 35) rfl c2 (by decide) (fun q3 => ?_) (fun q3 => ?_)
    · have h := h.1 q3
      refine v_aload_n 20 0 rfl rfl rfl ?_
      refine v_bipush 21 rfl (by decide) ?_
      refine v_callV (st := []) [I_ 7] 22 rfl lv11_85_tied_10 (al 1 rfl hn) (wk1 dy) (by decide) rfl (Nat.le_refl _) (Nat.le_refl _) ?_
      exact h
    · have h := h.2 q3
      refine v_iload_n 11 3 rfl rfl rfl ?_
      refine v_ldc (v := 1000000) 12 rfl (tbG_in (List.mem_append_right _ (List.mem_of_getElem? (i := 670) (by decide +kernel))) rfl) ?_
      refine v_icmp_gt 13 rfl (tgt := 35) rfl c2 (by decide) (fun q4 => ?_) (fun q4 => ?_)
      · have h := h.1 q4
        refine v_aload_n 20 0 rfl rfl rfl ?_
        refine v_bipush 21 rfl (by decide) ?_
        refine v_callV (st := []) [I_ 7] 22 rfl lv11_85_tied_10 (al 1 rfl hn) (wk1 dy) (by decide) rfl (Nat.le_refl _) (Nat.le_refl _) ?_
        exact h
      · have h := h.2 q4
        refine v_iload_n 14 2 rfl rfl rfl ?_
        refine v_iconst 15 rfl ?_
        have c5 := h.1
        have h := h.2
        refine v_icmp_lt 16 rfl (tgt := 35) rfl c5 (by decide) (fun q6 => ?_) (fun q6 => ?_)
        · have h := h.1 q6
          refine v_aload_n 20 0 rfl rfl rfl ?_
          refine v_bipush 21 rfl (by decide) ?_
          refine v_callV (st := []) [I_ 7] 22 rfl lv11_85_tied_10 (al 1 rfl hn) (wk1 dy) (by decide) rfl (Nat.le_refl _) (Nat.le_refl _) ?_
          exact h
        · have h := h.2 q6
          refine v_iload_n 17 2 rfl rfl rfl ?_
          refine v_iload_n 18 3 rfl rfl rfl ?_
          refine v_icmp_lt 19 rfl (tgt := 42) rfl c5 c2 (fun q7 => ?_) (fun q7 => ?_)
          · have h := h.1 q7
            refine v_aload 24 4 rfl rfl ?_
            refine v_iload_n 25 2 rfl rfl rfl ?_
            have c8 := h.1
            have h := h.2
            refine v_putI 26 rfl fl11_214_5 c8.1 c8.2.1 (by decide) rfl (c8.2.2 12) c5 ?_
            refine v_aload 27 4 rfl rfl ?_
            refine v_iload_n 28 3 rfl rfl rfl ?_
            refine v_putI 29 rfl fl11_217_5 c8.1 c8.2.1 (by decide) rfl (c8.2.2 13) c2 ?_
            refine v_aload_n 30 0 rfl rfl rfl ?_
            refine v_callV (st := []) [] 31 rfl lv11_93_tied_10 (al 1 rfl hn) (wk1 dy) (by decide) rfl (Nat.le_refl _) (Nat.le_refl _) ?_
            exact h
          · have h := h.2 q7
            refine v_aload_n 20 0 rfl rfl rfl ?_
            refine v_bipush 21 rfl (by decide) ?_
            refine v_callV (st := []) [I_ 7] 22 rfl lv11_85_tied_10 (al 1 rfl hn) (wk1 dy) (by decide) rfl (Nat.le_refl _) (Nat.le_refl _) ?_
            exact h
  · have h := h.2 q1
    refine v_iconst 6 rfl ?_
    exact v_ret (v := some (I_ 0)) 7 rfl (Nat.zero_le _) (Nat.zero_le _) (Or.inl rfl) rfl h
set_option maxHeartbeats 8000000 in
set_option maxRecDepth 4000 in
theorem bX11_tied_41 {d n : Nat} {dy : Nat → Shp} {g : Hp} {P : Pst} {x1 : Int} {x2 : Int} {x3 : Int} {r4 : Nat} {xs0 : Int} (hn : 100 ≤ n) (h : (xs0 = 0 ∨ xs0 = 1) ∧ P (some (I_ xs0)) n (W0 dy) g) : V miX11_tied (d + 1) 41 [(0, .ref 1), (1, I_ x1), (2, I_ x2), (3, I_ x3), (4, .ref r4)] [I_ xs0] n (W0 dy) g 0 0 P := by
  have c1 := h.1
  have h := h.2
  exact v_ret (v := some (I_ xs0)) 23 rfl (Nat.zero_le _) (Nat.zero_le _) (rokZ c1) rfl h
set_option maxHeartbeats 8000000 in
set_option maxRecDepth 4000 in
theorem bX11_tied_58 {d n : Nat} {dy : Nat → Shp} {g : Hp} {P : Pst} {x1 : Int} {x2 : Int} {x3 : Int} {r4 : Nat} {xs0 : Int} (hn : 100 ≤ n) (h : (xs0 = 0 ∨ xs0 = 1) ∧ P (some (I_ xs0)) n (W0 dy) g) : V miX11_tied (d + 1) 58 [(0, .ref 1), (1, I_ x1), (2, I_ x2), (3, I_ x3), (4, .ref r4)] [I_ xs0] n (W0 dy) g 0 0 P := by
  have c1 := h.1
  have h := h.2
  exact v_ret (v := some (I_ xs0)) 32 rfl (Nat.zero_le _) (Nat.zero_le _) (rokZ c1) rfl h
theorem wX11_tied {d n : Nat} {dy : Nat → Shp} {g : Hp} {P : Pst} {x1 : Int} {x2 : Int} {x3 : Int} (hn : 100 ≤ n) (h : Runs miX11_rodGiven d [.ref 1, I_ x1] n (W0 dy) g (fun v n' S' g' => V miX11_tied (d + 1) 5 [(0, .ref 1), (1, I_ x1), (2, I_ x2), (3, I_ x3)] (v.toList ++ []) n' S' g' 0 0 P)) : Runs miX11_tied (d + 1) [.ref 1, I_ x1, I_ x2, I_ x3] n (W0 dy) g P := Runs.of rfl rfl deX11_tied (Nat.le_of_ble_eq_true rfl) (bX11_tied_0 hn h)
theorem fl11_220_5 : FL RX11 220 5 14 false (.object "MobileMaker$Part") := ⟨RX6, TX6, 16, "MobileMaker$Rod", rfl, rfl, by decide, kf5, tbG_in (List.mem_append_right _ (List.mem_of_getElem? (i := 462) (by decide +kernel))) rfl, Or.inl rfl, rfl, by decide +kernel, ⟨tyX6, tyX6_ok⟩, nmX6, fun h => by cases h⟩
theorem fl11_224_5 : FL RX11 224 5 15 false (.object "MobileMaker$Part") := ⟨RX6, TX6, 16, "MobileMaker$Rod", rfl, rfl, by decide, kf5, tbG_in (List.mem_append_right _ (List.mem_of_getElem? (i := 467) (by decide +kernel))) rfl, Or.inl rfl, rfl, by decide +kernel, ⟨tyX6, tyX6_ok⟩, nmX6, fun h => by cases h⟩
theorem lv11_171_swap_10 : LkV miX11_swap miX11_rodGiven 171 1 10 := ⟨⟨⟨tbG_in (List.mem_append_right _ (List.mem_of_getElem? (i := 617) (by decide +kernel))) rfl, tbG_in (List.mem_append_right _ (List.mem_of_getElem? (i := 1) (by decide +kernel))) rfl, tbG_in (List.mem_append_right _ (List.mem_of_getElem? (i := 614) (by decide +kernel))) rfl⟩, ⟨by decide +kernel, by decide +kernel, by decide +kernel⟩, by decide⟩, tbG_in (List.mem_append_right _ (List.mem_of_getElem? (i := 616) (by decide +kernel))) rfl, RX11, TX11, 13, rfl, tbG_in (List.mem_append_left _ (List.mem_of_getElem? (i := 14) (by decide +kernel))) rfl⟩
theorem lv11_203_swap_5 : LkV miX11_swap miX6_bear 203 2 5 := ⟨⟨⟨tbG_in (List.mem_append_right _ (List.mem_of_getElem? (i := 649) (by decide +kernel))) rfl, tbG_in (List.mem_append_right _ (List.mem_of_getElem? (i := 14) (by decide +kernel))) rfl, tbG_in (List.mem_append_right _ (List.mem_of_getElem? (i := 646) (by decide +kernel))) rfl⟩, ⟨by decide +kernel, by decide +kernel, by decide +kernel⟩, by decide⟩, tbG_in (List.mem_append_right _ (List.mem_of_getElem? (i := 647) (by decide +kernel))) rfl, RX6, TX6, 16, rfl, tbG_in (List.mem_append_right _ (List.mem_of_getElem? (i := 648) (by decide +kernel))) rfl⟩
theorem lv11_93_swap_10 : LkV miX11_swap miX11_allows 93 0 10 := ⟨⟨⟨tbG_in (List.mem_append_right _ (List.mem_of_getElem? (i := 282) (by decide +kernel))) rfl, tbG_in (List.mem_append_right _ (List.mem_of_getElem? (i := 1) (by decide +kernel))) rfl, tbG_in (List.mem_append_right _ (List.mem_of_getElem? (i := 279) (by decide +kernel))) rfl⟩, ⟨by decide +kernel, by decide +kernel, by decide +kernel⟩, by decide⟩, tbG_in (List.mem_append_right _ (List.mem_of_getElem? (i := 281) (by decide +kernel))) rfl, RX11, TX11, 13, rfl, tbG_in (List.mem_append_left _ (List.mem_of_getElem? (i := 2) (by decide +kernel))) rfl⟩
set_option maxHeartbeats 8000000 in
set_option maxRecDepth 4000 in
theorem bX11_swap_0 {d n : Nat} {dy : Nat → Shp} {g : Hp} {P : Pst} {x1 : Int} (hn : 100 ≤ n) (h : Runs miX11_rodGiven d [.ref 1, I_ x1] n (W0 dy) g (fun v n' S' g' => V miX11_swap (d + 1) 5 [(0, .ref 1), (1, I_ x1)] (v.toList ++ []) n' S' g' 0 0 P)) : V miX11_swap (d + 1) 0 [(0, .ref 1), (1, I_ x1)] [] n (W0 dy) g 0 0 P := by
  refine v_aload_n 0 0 rfl rfl rfl ?_
  refine v_iload_n 1 1 rfl rfl rfl ?_
  refine v_callV (st := []) [I_ x1] 2 rfl lv11_171_swap_10 (al 1 rfl hn) (wk1 dy) (by decide) rfl (Nat.le_refl _) (Nat.le_refl _) ?_
  exact h
set_option maxHeartbeats 8000000 in
set_option maxRecDepth 4000 in
theorem bX11_swap_5 {d n : Nat} {dy : Nat → Shp} {g : Hp} {P : Pst} {x1 : Int} {rs0 : Nat} (hn : 100 ≤ n) (h : ((0 < rs0) → (Ob n (W0 dy) rs0 5) ∧ Runs miX6_bear d [.ref rs0, I_ 0, .ref ((g rs0 15).toNat)] n (W0 dy) g (fun v n' S' g' => V miX11_swap (d + 1) 26 [(0, .ref 1), (1, I_ x1), (2, .ref rs0), (3, .ref ((g rs0 14).toNat))] (v.toList ++ []) n' S' g' 0 0 P)) ∧ ((rs0 = 0) → P (some (I_ 0)) n (W0 dy) g)) : V miX11_swap (d + 1) 5 [(0, .ref 1), (1, I_ x1)] [.ref rs0] n (W0 dy) g 0 0 P := by
  refine v_astore_n 3 [1, 2, 0] rfl rfl (by decide) rfl ?_
  refine v_aload_n 4 2 rfl rfl rfl ?_
  refine v_ifnonnull 5 rfl (tgt := 12) rfl (fun q1 => ?_) (fun q1 => ?_)
  · have h := h.1 q1
    refine v_aload_n 8 2 rfl rfl rfl ?_
    have c2 := h.1
    have h := h.2
    refine v_gR 9 rfl fl11_220_5.r c2.1 c2.2.1 (by decide) rfl (c2.2.2 14) (x := g rs0 14) rfl ?_
    refine v_astore_n 10 [1, 2, 3, 0] rfl rfl (by decide) rfl ?_
    refine v_aload_n 11 2 rfl rfl rfl ?_
    refine v_iconst 12 rfl ?_
    refine v_aload_n 13 2 rfl rfl rfl ?_
    refine v_gR 14 rfl fl11_224_5.r c2.1 c2.2.1 (by decide) rfl (c2.2.2 15) (x := g rs0 15) rfl ?_
    refine v_callV (st := []) [I_ 0, .ref ((g rs0 15).toNat)] 15 rfl lv11_203_swap_5 c2.1 c2.2.1 (by decide) rfl (Nat.le_refl _) (Nat.le_refl _) ?_
    exact h
  · have h := h.2 q1
    refine v_iconst 6 rfl ?_
    exact v_ret (v := some (I_ 0)) 7 rfl (Nat.zero_le _) (Nat.zero_le _) (Or.inl rfl) rfl h
set_option maxHeartbeats 8000000 in
set_option maxRecDepth 4000 in
theorem bX11_swap_26 {d n : Nat} {dy : Nat → Shp} {g : Hp} {P : Pst} {x1 : Int} {r2 : Nat} {r3 : Nat} (hn : 100 ≤ n) (h : (Ob n (W0 dy) r2 5) ∧ Runs miX6_bear d [.ref r2, I_ 1, .ref r3] n (W0 dy) g (fun v n' S' g' => V miX11_swap (d + 1) 32 [(0, .ref 1), (1, I_ x1), (2, .ref r2), (3, .ref r3)] (v.toList ++ []) n' S' g' 0 0 P)) : V miX11_swap (d + 1) 26 [(0, .ref 1), (1, I_ x1), (2, .ref r2), (3, .ref r3)] [] n (W0 dy) g 0 0 P := by
  refine v_aload_n 16 2 rfl rfl rfl ?_
  refine v_iconst 17 rfl ?_
  refine v_aload_n 18 3 rfl rfl rfl ?_
  have c1 := h.1
  have h := h.2
  refine v_callV (st := []) [I_ 1, .ref r3] 19 rfl lv11_203_swap_5 c1.1 c1.2.1 (by decide) rfl (Nat.le_refl _) (Nat.le_refl _) ?_
  exact h
set_option maxHeartbeats 8000000 in
set_option maxRecDepth 4000 in
theorem bX11_swap_32 {d n : Nat} {dy : Nat → Shp} {g : Hp} {P : Pst} {x1 : Int} {r2 : Nat} {r3 : Nat} (hn : 100 ≤ n) (h : Runs miX11_allows d [.ref 1] n (W0 dy) g (fun v n' S' g' => V miX11_swap (d + 1) 36 [(0, .ref 1), (1, I_ x1), (2, .ref r2), (3, .ref r3)] (v.toList ++ []) n' S' g' 0 0 P)) : V miX11_swap (d + 1) 32 [(0, .ref 1), (1, I_ x1), (2, .ref r2), (3, .ref r3)] [] n (W0 dy) g 0 0 P := by
  refine v_aload_n 20 0 rfl rfl rfl ?_
  refine v_callV (st := []) [] 21 rfl lv11_93_swap_10 (al 1 rfl hn) (wk1 dy) (by decide) rfl (Nat.le_refl _) (Nat.le_refl _) ?_
  exact h
set_option maxHeartbeats 8000000 in
set_option maxRecDepth 4000 in
theorem bX11_swap_36 {d n : Nat} {dy : Nat → Shp} {g : Hp} {P : Pst} {x1 : Int} {r2 : Nat} {r3 : Nat} {xs0 : Int} (hn : 100 ≤ n) (h : (xs0 = 0 ∨ xs0 = 1) ∧ P (some (I_ xs0)) n (W0 dy) g) : V miX11_swap (d + 1) 36 [(0, .ref 1), (1, I_ x1), (2, .ref r2), (3, .ref r3)] [I_ xs0] n (W0 dy) g 0 0 P := by
  have c1 := h.1
  have h := h.2
  exact v_ret (v := some (I_ xs0)) 22 rfl (Nat.zero_le _) (Nat.zero_le _) (rokZ c1) rfl h
theorem wX11_swap {d n : Nat} {dy : Nat → Shp} {g : Hp} {P : Pst} {x1 : Int} (hn : 100 ≤ n) (h : Runs miX11_rodGiven d [.ref 1, I_ x1] n (W0 dy) g (fun v n' S' g' => V miX11_swap (d + 1) 5 [(0, .ref 1), (1, I_ x1)] (v.toList ++ []) n' S' g' 0 0 P)) : Runs miX11_swap (d + 1) [.ref 1, I_ x1] n (W0 dy) g P := Runs.of rfl rfl deX11_swap (Nat.le_of_ble_eq_true rfl) (bX11_swap_0 hn h)
theorem fl11_31_10 : FL RX11 31 10 4 true (.object "MobileMaker$Mobile") := ⟨RX11, TX11, 13, "MobileMaker", rfl, rfl, by decide, kf10, tbG_in (List.mem_append_right _ (List.mem_of_getElem? (i := 220) (by decide +kernel))) rfl, Or.inl rfl, rfl, by decide +kernel, ⟨tyX11, tyX11_ok⟩, nmX11, fun _ => rfl⟩
theorem fl11_231_3 : FL RX11 231 3 8 false .long := ⟨RX4, TX4, 14, "MobileMaker$Part", rfl, rfl, by decide, kf3, tbG_in (List.mem_append_right _ (List.mem_of_getElem? (i := 401) (by decide +kernel))) rfl, Or.inl rfl, rfl, by decide +kernel, ⟨tyX4, tyX4_ok⟩, nmX4, fun h => by cases h⟩
theorem fl11_231_5 : FL RX11 231 5 8 false .long := ⟨RX6, TX6, 16, "MobileMaker$Part", rfl, rfl, by decide, kf5, tbG_in (List.mem_append_right _ (List.mem_of_getElem? (i := 401) (by decide +kernel))) rfl, Or.inl rfl, rfl, by decide +kernel, ⟨tyX6, tyX6_ok⟩, nmX6, fun h => by cases h⟩
theorem fl11_231_9 : FL RX11 231 9 8 false .long := ⟨RX10, TX10, 10, "MobileMaker$Part", rfl, rfl, by decide, kf9, tbG_in (List.mem_append_right _ (List.mem_of_getElem? (i := 401) (by decide +kernel))) rfl, Or.inl rfl, rfl, by decide +kernel, ⟨tyX10, tyX10_ok⟩, nmX10, fun h => by cases h⟩
theorem lv11_163_bears_10 : LkV miX11_bears miX11_partAt 163 1 10 := ⟨⟨⟨tbG_in (List.mem_append_right _ (List.mem_of_getElem? (i := 600) (by decide +kernel))) rfl, tbG_in (List.mem_append_right _ (List.mem_of_getElem? (i := 1) (by decide +kernel))) rfl, tbG_in (List.mem_append_right _ (List.mem_of_getElem? (i := 597) (by decide +kernel))) rfl⟩, ⟨by decide +kernel, by decide +kernel, by decide +kernel⟩, by decide⟩, tbG_in (List.mem_append_right _ (List.mem_of_getElem? (i := 599) (by decide +kernel))) rfl, RX11, TX11, 13, rfl, tbG_in (List.mem_append_left _ (List.mem_of_getElem? (i := 13) (by decide +kernel))) rfl⟩
theorem lv11_227_bears_1 : LkV miX11_bears miX1_gather 227 1 1 := ⟨⟨⟨tbG_in (List.mem_append_right _ (List.mem_of_getElem? (i := 682) (by decide +kernel))) rfl, tbG_in (List.mem_append_right _ (List.mem_of_getElem? (i := 2) (by decide +kernel))) rfl, tbG_in (List.mem_append_right _ (List.mem_of_getElem? (i := 679) (by decide +kernel))) rfl⟩, ⟨by decide +kernel, by decide +kernel, by decide +kernel⟩, by decide⟩, tbG_in (List.mem_append_right _ (List.mem_of_getElem? (i := 680) (by decide +kernel))) rfl, RX1, TX1, 3, rfl, tbG_in (List.mem_append_right _ (List.mem_of_getElem? (i := 681) (by decide +kernel))) rfl⟩
theorem lv11_135_bears_10 : LkV miX11_bears miX11_none 135 1 10 := ⟨⟨⟨tbG_in (List.mem_append_right _ (List.mem_of_getElem? (i := 336) (by decide +kernel))) rfl, tbG_in (List.mem_append_right _ (List.mem_of_getElem? (i := 1) (by decide +kernel))) rfl, tbG_in (List.mem_append_right _ (List.mem_of_getElem? (i := 333) (by decide +kernel))) rfl⟩, ⟨by decide +kernel, by decide +kernel, by decide +kernel⟩, by decide⟩, tbG_in (List.mem_append_right _ (List.mem_of_getElem? (i := 335) (by decide +kernel))) rfl, RX11, TX11, 13, rfl, tbG_in (List.mem_append_left _ (List.mem_of_getElem? (i := 4) (by decide +kernel))) rfl⟩
set_option maxHeartbeats 8000000 in
set_option maxRecDepth 4000 in
theorem bX11_bears_0 {d n : Nat} {dy : Nat → Shp} {g : Hp} {P : Pst} {x1 : Int} (hn : 100 ≤ n) (h : Runs miX11_partAt d [.ref 1, I_ x1] n (W0 dy) g (fun v n' S' g' => V miX11_bears (d + 1) 5 [(0, .ref 1), (1, I_ x1)] (v.toList ++ []) n' S' g' 0 0 P)) : V miX11_bears (d + 1) 0 [(0, .ref 1), (1, I_ x1)] [] n (W0 dy) g 0 0 P := by
  refine v_aload_n 0 0 rfl rfl rfl ?_
  refine v_iload_n 1 1 rfl rfl rfl ?_
  refine v_callV (st := []) [I_ x1] 2 rfl lv11_163_bears_10 (al 1 rfl hn) (wk1 dy) (by decide) rfl (Nat.le_refl _) (Nat.le_refl _) ?_
  exact h
set_option maxHeartbeats 8000000 in
set_option maxRecDepth 4000 in
theorem bX11_bears_5 {d n : Nat} {dy : Nat → Shp} {g : Hp} {P : Pst} {x1 : Int} {rs0 : Nat} (hn : 100 ≤ n) (h : ((0 < rs0) → Runs miX1_gather d [.ref 4, .ref rs0] n (W0 dy) g (fun v n' S' g' => V miX11_bears (d + 1) 25 [(0, .ref 1), (1, I_ x1), (2, .ref rs0)] (v.toList ++ []) n' S' g' 0 0 P)) ∧ ((rs0 = 0) → Runs miX11_none d [.ref 1, I_ 2] n (W0 dy) g (fun v n' S' g' => V miX11_bears (d + 1) 15 [(0, .ref 1), (1, I_ x1), (2, .ref rs0)] (v.toList ++ []) n' S' g' 0 0 P))) : V miX11_bears (d + 1) 5 [(0, .ref 1), (1, I_ x1)] [.ref rs0] n (W0 dy) g 0 0 P := by
  refine v_astore_n 3 [1, 2, 0] rfl rfl (by decide) rfl ?_
  refine v_aload_n 4 2 rfl rfl rfl ?_
  refine v_ifnonnull 5 rfl (tgt := 17) rfl (fun q1 => ?_) (fun q1 => ?_)
  · have h := h.1 q1
    refine v_aload_n 11 0 rfl rfl rfl ?_
    refine v_gK 12 rfl fl11_31_10.r (al 1 rfl hn) (wk1 dy) (by decide) rfl (r := 4) (wc1_4 dy) ?_
    refine v_aload_n 13 2 rfl rfl rfl ?_
    refine v_callV (st := []) [.ref rs0] 14 rfl lv11_227_bears_1 (al 4 rfl hn) (wk4 dy) (by decide) rfl (Nat.le_refl _) (Nat.le_refl _) ?_
    exact h
  · have h := h.2 q1
    refine v_aload_n 6 0 rfl rfl rfl ?_
    refine v_iconst 7 rfl ?_
    refine v_callV (st := []) [I_ 2] 8 rfl lv11_135_bears_10 (al 1 rfl hn) (wk1 dy) (by decide) rfl (Nat.le_refl _) (Nat.le_refl _) ?_
    exact h
set_option maxHeartbeats 8000000 in
set_option maxRecDepth 4000 in
theorem bX11_bears_15 {d n : Nat} {dy : Nat → Shp} {g : Hp} {P : Pst} {x1 : Int} {r2 : Nat} {xs0 : Int} (hn : 100 ≤ n) (h : (i3 xs0) ∧ P (some (L_ xs0)) n (W0 dy) g) : V miX11_bears (d + 1) 15 [(0, .ref 1), (1, I_ x1), (2, .ref r2)] [I_ xs0] n (W0 dy) g 0 0 P := by
  have c1 := h.1
  have h := h.2
  refine v_i2l 9 rfl c1 ?_
  exact v_ret (v := some (L_ xs0)) 10 rfl (Nat.zero_le _) (Nat.zero_le _) trivial rfl h
set_option maxHeartbeats 8000000 in
set_option maxRecDepth 4000 in
theorem bX11_bears_25 {d n : Nat} {dy : Nat → Shp} {g : Hp} {P : Pst} {x1 : Int} {r2 : Nat} (hn : 100 ≤ n) (h : (Pt n (W0 dy) r2) ∧ P (some (L_ (g r2 8))) n (W0 dy) (up2 g 1 3 0)) : V miX11_bears (d + 1) 25 [(0, .ref 1), (1, I_ x1), (2, .ref r2)] [] n (W0 dy) g 0 0 P := by
  refine v_aload_n 15 0 rfl rfl rfl ?_
  refine v_iconst 16 rfl ?_
  refine v_putI 17 rfl fl11_25_10 (al 1 rfl hn) (wk1 dy) (by decide) rfl (wc1_3 dy) (by decide) ?_
  refine v_aload_n 18 2 rfl rfl rfl ?_
  have c1 := h.1
  have h := h.2
  refine v_pL 19 rfl ⟨fl11_231_3.r, fl11_231_5.r, fl11_231_9.r⟩ c1 ⟨rfl, rfl, rfl⟩ (x := g r2 8) (up2_q (by decide)) ?_
  refine v_rng fun w2 => ?_
  have p3 : i6 (g r2 8) := rPL w2 (q := 8) c1 rfl rfl rfl (up2_q (by decide))
  exact v_ret (v := some (L_ (g r2 8))) 20 rfl (Nat.zero_le _) (Nat.zero_le _) trivial rfl h
theorem wX11_bears {d n : Nat} {dy : Nat → Shp} {g : Hp} {P : Pst} {x1 : Int} (hn : 100 ≤ n) (h : Runs miX11_partAt d [.ref 1, I_ x1] n (W0 dy) g (fun v n' S' g' => V miX11_bears (d + 1) 5 [(0, .ref 1), (1, I_ x1)] (v.toList ++ []) n' S' g' 0 0 P)) : Runs miX11_bears (d + 1) [.ref 1, I_ x1] n (W0 dy) g P := Runs.of rfl rfl deX11_bears (Nat.le_of_ble_eq_true rfl) (bX11_bears_0 hn h)
theorem lv11_171_tilts_10 : LkV miX11_tilts miX11_rodGiven 171 1 10 := ⟨⟨⟨tbG_in (List.mem_append_right _ (List.mem_of_getElem? (i := 617) (by decide +kernel))) rfl, tbG_in (List.mem_append_right _ (List.mem_of_getElem? (i := 1) (by decide +kernel))) rfl, tbG_in (List.mem_append_right _ (List.mem_of_getElem? (i := 614) (by decide +kernel))) rfl⟩, ⟨by decide +kernel, by decide +kernel, by decide +kernel⟩, by decide⟩, tbG_in (List.mem_append_right _ (List.mem_of_getElem? (i := 616) (by decide +kernel))) rfl, RX11, TX11, 13, rfl, tbG_in (List.mem_append_left _ (List.mem_of_getElem? (i := 14) (by decide +kernel))) rfl⟩
theorem lv11_227_tilts_1 : LkV miX11_tilts miX1_gather 227 1 1 := ⟨⟨⟨tbG_in (List.mem_append_right _ (List.mem_of_getElem? (i := 682) (by decide +kernel))) rfl, tbG_in (List.mem_append_right _ (List.mem_of_getElem? (i := 2) (by decide +kernel))) rfl, tbG_in (List.mem_append_right _ (List.mem_of_getElem? (i := 679) (by decide +kernel))) rfl⟩, ⟨by decide +kernel, by decide +kernel, by decide +kernel⟩, by decide⟩, tbG_in (List.mem_append_right _ (List.mem_of_getElem? (i := 680) (by decide +kernel))) rfl, RX1, TX1, 3, rfl, tbG_in (List.mem_append_right _ (List.mem_of_getElem? (i := 681) (by decide +kernel))) rfl⟩
theorem lv11_235_tilts_5 : LkV miX11_tilts miX6_lean 235 0 5 := ⟨⟨⟨tbG_in (List.mem_append_right _ (List.mem_of_getElem? (i := 702) (by decide +kernel))) rfl, tbG_in (List.mem_append_right _ (List.mem_of_getElem? (i := 14) (by decide +kernel))) rfl, tbG_in (List.mem_append_right _ (List.mem_of_getElem? (i := 699) (by decide +kernel))) rfl⟩, ⟨by decide +kernel, by decide +kernel, by decide +kernel⟩, by decide⟩, tbG_in (List.mem_append_right _ (List.mem_of_getElem? (i := 700) (by decide +kernel))) rfl, RX6, TX6, 16, rfl, tbG_in (List.mem_append_right _ (List.mem_of_getElem? (i := 701) (by decide +kernel))) rfl⟩
set_option maxHeartbeats 8000000 in
set_option maxRecDepth 4000 in
theorem bX11_tilts_0 {d n : Nat} {dy : Nat → Shp} {g : Hp} {P : Pst} {x1 : Int} (hn : 100 ≤ n) (h : Runs miX11_rodGiven d [.ref 1, I_ x1] n (W0 dy) g (fun v n' S' g' => V miX11_tilts (d + 1) 5 [(0, .ref 1), (1, I_ x1)] (v.toList ++ []) n' S' g' 0 0 P)) : V miX11_tilts (d + 1) 0 [(0, .ref 1), (1, I_ x1)] [] n (W0 dy) g 0 0 P := by
  refine v_aload_n 0 0 rfl rfl rfl ?_
  refine v_iload_n 1 1 rfl rfl rfl ?_
  refine v_callV (st := []) [I_ x1] 2 rfl lv11_171_tilts_10 (al 1 rfl hn) (wk1 dy) (by decide) rfl (Nat.le_refl _) (Nat.le_refl _) ?_
  exact h
set_option maxHeartbeats 8000000 in
set_option maxRecDepth 4000 in
theorem bX11_tilts_5 {d n : Nat} {dy : Nat → Shp} {g : Hp} {P : Pst} {x1 : Int} {rs0 : Nat} (hn : 100 ≤ n) (h : ((0 < rs0) → Runs miX1_gather d [.ref 4, .ref rs0] n (W0 dy) g (fun v n' S' g' => V miX11_tilts (d + 1) 20 [(0, .ref 1), (1, I_ x1), (2, .ref rs0)] (v.toList ++ []) n' S' g' 0 0 P)) ∧ ((rs0 = 0) → P (some (I_ ((-1)))) n (W0 dy) g)) : V miX11_tilts (d + 1) 5 [(0, .ref 1), (1, I_ x1)] [.ref rs0] n (W0 dy) g 0 0 P := by
  refine v_astore_n 3 [1, 2, 0] rfl rfl (by decide) rfl ?_
  refine v_aload_n 4 2 rfl rfl rfl ?_
  refine v_ifnonnull 5 rfl (tgt := 12) rfl (fun q1 => ?_) (fun q1 => ?_)
  · have h := h.1 q1
    refine v_aload_n 8 0 rfl rfl rfl ?_
    refine v_gK 9 rfl fl11_31_10.r (al 1 rfl hn) (wk1 dy) (by decide) rfl (r := 4) (wc1_4 dy) ?_
    refine v_aload_n 10 2 rfl rfl rfl ?_
    refine v_callV (st := []) [.ref rs0] 11 rfl lv11_227_tilts_1 (al 4 rfl hn) (wk4 dy) (by decide) rfl (Nat.le_refl _) (Nat.le_refl _) ?_
    exact h
  · have h := h.2 q1
    refine v_iconst 6 rfl ?_
    exact v_ret (v := some (I_ ((-1)))) 7 rfl (Nat.zero_le _) (Nat.zero_le _) trivial rfl h
set_option maxHeartbeats 8000000 in
set_option maxRecDepth 4000 in
theorem bX11_tilts_20 {d n : Nat} {dy : Nat → Shp} {g : Hp} {P : Pst} {x1 : Int} {r2 : Nat} (hn : 100 ≤ n) (h : (Ob n (W0 dy) r2 5) ∧ Runs miX6_lean d [.ref r2] n (W0 dy) g (fun v n' S' g' => V miX11_tilts (d + 1) 24 [(0, .ref 1), (1, I_ x1), (2, .ref r2)] (v.toList ++ []) n' S' g' 0 0 P)) : V miX11_tilts (d + 1) 20 [(0, .ref 1), (1, I_ x1), (2, .ref r2)] [] n (W0 dy) g 0 0 P := by
  refine v_aload_n 12 2 rfl rfl rfl ?_
  have c1 := h.1
  have h := h.2
  refine v_callV (st := []) [] 13 rfl lv11_235_tilts_5 c1.1 c1.2.1 (by decide) rfl (Nat.le_refl _) (Nat.le_refl _) ?_
  exact h
set_option maxHeartbeats 8000000 in
set_option maxRecDepth 4000 in
theorem bX11_tilts_24 {d n : Nat} {dy : Nat → Shp} {g : Hp} {P : Pst} {x1 : Int} {r2 : Nat} {xs0 : Int} (hn : 100 ≤ n) (h : (i6 xs0) ∧ ((xs0 ≠ 0) → ((xs0 ≤ 0) → P (some (I_ 2)) n (W0 dy) g) ∧ ((0 < xs0) → P (some (I_ 1)) n (W0 dy) g)) ∧ ((xs0 = 0) → P (some (I_ 0)) n (W0 dy) g)) : V miX11_tilts (d + 1) 24 [(0, .ref 1), (1, I_ x1), (2, .ref r2)] [L_ xs0] n (W0 dy) g 0 0 P := by
  refine v_lstore_n 14 [1, 2, 3, 0] rfl rfl (by decide) rfl ?_
  refine v_lload_n 15 3 rfl rfl rfl ?_
  refine v_lconst (v := 0) 16 rfl (by decide) ?_
  have c1 := h.1
  have h := h.2
  refine v_lif_ne 17 rfl rfl (tgt := 35) rfl c1 (by decide) (fun q2 => ?_) (fun q2 => ?_)
  · have h := h.1 q2
    refine v_lload_n 21 3 rfl rfl rfl ?_
    refine v_lconst (v := 0) 22 rfl (by decide) ?_
    refine v_lif_le 23 rfl rfl (tgt := 45) rfl c1 (by decide) (fun q3 => ?_) (fun q3 => ?_)
    · have h := h.1 q3
      refine v_iconst 27 rfl ?_
      exact v_ret (v := some (I_ 2)) 28 rfl (Nat.zero_le _) (Nat.zero_le _) trivial rfl h
    · have h := h.2 q3
      refine v_iconst 25 rfl ?_
      refine v_goto 26 rfl (tgt := 46) rfl ?_
      exact v_ret (v := some (I_ 1)) 28 rfl (Nat.zero_le _) (Nat.zero_le _) trivial rfl h
  · have h := h.2 q2
    refine v_iconst 19 rfl ?_
    refine v_goto 20 rfl (tgt := 46) rfl ?_
    exact v_ret (v := some (I_ 0)) 28 rfl (Nat.zero_le _) (Nat.zero_le _) trivial rfl h
theorem wX11_tilts {d n : Nat} {dy : Nat → Shp} {g : Hp} {P : Pst} {x1 : Int} (hn : 100 ≤ n) (h : Runs miX11_rodGiven d [.ref 1, I_ x1] n (W0 dy) g (fun v n' S' g' => V miX11_tilts (d + 1) 5 [(0, .ref 1), (1, I_ x1)] (v.toList ++ []) n' S' g' 0 0 P)) : Runs miX11_tilts (d + 1) [.ref 1, I_ x1] n (W0 dy) g P := Runs.of rfl rfl deX11_tilts (Nat.le_of_ble_eq_true rfl) (bX11_tilts_0 hn h)
theorem lv11_239_wrong_10 : LkV miX11_wrong miX11_topGiven 239 1 10 := ⟨⟨⟨tbG_in (List.mem_append_right _ (List.mem_of_getElem? (i := 714) (by decide +kernel))) rfl, tbG_in (List.mem_append_right _ (List.mem_of_getElem? (i := 1) (by decide +kernel))) rfl, tbG_in (List.mem_append_right _ (List.mem_of_getElem? (i := 711) (by decide +kernel))) rfl⟩, ⟨by decide +kernel, by decide +kernel, by decide +kernel⟩, by decide⟩, tbG_in (List.mem_append_right _ (List.mem_of_getElem? (i := 713) (by decide +kernel))) rfl, RX11, TX11, 13, rfl, tbG_in (List.mem_append_left _ (List.mem_of_getElem? (i := 16) (by decide +kernel))) rfl⟩
theorem lv11_227_wrong_1 : LkV miX11_wrong miX1_gather 227 1 1 := ⟨⟨⟨tbG_in (List.mem_append_right _ (List.mem_of_getElem? (i := 682) (by decide +kernel))) rfl, tbG_in (List.mem_append_right _ (List.mem_of_getElem? (i := 2) (by decide +kernel))) rfl, tbG_in (List.mem_append_right _ (List.mem_of_getElem? (i := 679) (by decide +kernel))) rfl⟩, ⟨by decide +kernel, by decide +kernel, by decide +kernel⟩, by decide⟩, tbG_in (List.mem_append_right _ (List.mem_of_getElem? (i := 680) (by decide +kernel))) rfl, RX1, TX1, 3, rfl, tbG_in (List.mem_append_right _ (List.mem_of_getElem? (i := 681) (by decide +kernel))) rfl⟩
theorem lv11_242_wrong_1 : LkV miX11_wrong miX1_notLevel 242 0 1 := ⟨⟨⟨tbG_in (List.mem_append_right _ (List.mem_of_getElem? (i := 718) (by decide +kernel))) rfl, tbG_in (List.mem_append_right _ (List.mem_of_getElem? (i := 2) (by decide +kernel))) rfl, tbG_in (List.mem_append_right _ (List.mem_of_getElem? (i := 715) (by decide +kernel))) rfl⟩, ⟨by decide +kernel, by decide +kernel, by decide +kernel⟩, by decide⟩, tbG_in (List.mem_append_right _ (List.mem_of_getElem? (i := 716) (by decide +kernel))) rfl, RX1, TX1, 3, rfl, tbG_in (List.mem_append_right _ (List.mem_of_getElem? (i := 717) (by decide +kernel))) rfl⟩
set_option maxHeartbeats 8000000 in
set_option maxRecDepth 4000 in
theorem bX11_wrong_0 {d n : Nat} {dy : Nat → Shp} {g : Hp} {P : Pst} {x1 : Int} (hn : 100 ≤ n) (h : Runs miX11_topGiven d [.ref 1, I_ x1] n (W0 dy) g (fun v n' S' g' => V miX11_wrong (d + 1) 5 [(0, .ref 1), (1, I_ x1)] (v.toList ++ []) n' S' g' 0 0 P)) : V miX11_wrong (d + 1) 0 [(0, .ref 1), (1, I_ x1)] [] n (W0 dy) g 0 0 P := by
  refine v_aload_n 0 0 rfl rfl rfl ?_
  refine v_iload_n 1 1 rfl rfl rfl ?_
  refine v_callV (st := []) [I_ x1] 2 rfl lv11_239_wrong_10 (al 1 rfl hn) (wk1 dy) (by decide) rfl (Nat.le_refl _) (Nat.le_refl _) ?_
  exact h
set_option maxHeartbeats 8000000 in
set_option maxRecDepth 4000 in
theorem bX11_wrong_5 {d n : Nat} {dy : Nat → Shp} {g : Hp} {P : Pst} {x1 : Int} {rs0 : Nat} (hn : 100 ≤ n) (h : ((0 < rs0) → Runs miX1_gather d [.ref 4, .ref rs0] n (W0 dy) g (fun v n' S' g' => V miX11_wrong (d + 1) 20 [(0, .ref 1), (1, I_ x1), (2, .ref rs0)] (v.toList ++ []) n' S' g' 0 0 P)) ∧ ((rs0 = 0) → P (some (I_ ((-1)))) n (W0 dy) g)) : V miX11_wrong (d + 1) 5 [(0, .ref 1), (1, I_ x1)] [.ref rs0] n (W0 dy) g 0 0 P := by
  refine v_astore_n 3 [1, 2, 0] rfl rfl (by decide) rfl ?_
  refine v_aload_n 4 2 rfl rfl rfl ?_
  refine v_ifnonnull 5 rfl (tgt := 12) rfl (fun q1 => ?_) (fun q1 => ?_)
  · have h := h.1 q1
    refine v_aload_n 8 0 rfl rfl rfl ?_
    refine v_gK 9 rfl fl11_31_10.r (al 1 rfl hn) (wk1 dy) (by decide) rfl (r := 4) (wc1_4 dy) ?_
    refine v_aload_n 10 2 rfl rfl rfl ?_
    refine v_callV (st := []) [.ref rs0] 11 rfl lv11_227_wrong_1 (al 4 rfl hn) (wk4 dy) (by decide) rfl (Nat.le_refl _) (Nat.le_refl _) ?_
    exact h
  · have h := h.2 q1
    refine v_iconst 6 rfl ?_
    exact v_ret (v := some (I_ ((-1)))) 7 rfl (Nat.zero_le _) (Nat.zero_le _) trivial rfl h
set_option maxHeartbeats 8000000 in
set_option maxRecDepth 4000 in
theorem bX11_wrong_20 {d n : Nat} {dy : Nat → Shp} {g : Hp} {P : Pst} {x1 : Int} {r2 : Nat} (hn : 100 ≤ n) (h : Runs miX1_notLevel d [.ref 4] n (W0 dy) g (fun v n' S' g' => V miX11_wrong (d + 1) 27 [(0, .ref 1), (1, I_ x1), (2, .ref r2)] (v.toList ++ []) n' S' g' 0 0 P)) : V miX11_wrong (d + 1) 20 [(0, .ref 1), (1, I_ x1), (2, .ref r2)] [] n (W0 dy) g 0 0 P := by
  refine v_aload_n 12 0 rfl rfl rfl ?_
  refine v_gK 13 rfl fl11_31_10.r (al 1 rfl hn) (wk1 dy) (by decide) rfl (r := 4) (wc1_4 dy) ?_
  refine v_callV (st := []) [] 14 rfl lv11_242_wrong_1 (al 4 rfl hn) (wk4 dy) (by decide) rfl (Nat.le_refl _) (Nat.le_refl _) ?_
  exact h
set_option maxHeartbeats 8000000 in
set_option maxRecDepth 4000 in
theorem bX11_wrong_27 {d n : Nat} {dy : Nat → Shp} {g : Hp} {P : Pst} {x1 : Int} {r2 : Nat} {xs0 : Int} (hn : 100 ≤ n) (h : P (some (I_ xs0)) n (W0 dy) g) : V miX11_wrong (d + 1) 27 [(0, .ref 1), (1, I_ x1), (2, .ref r2)] [I_ xs0] n (W0 dy) g 0 0 P := by
  exact v_ret (v := some (I_ xs0)) 15 rfl (Nat.zero_le _) (Nat.zero_le _) trivial rfl h
theorem wX11_wrong {d n : Nat} {dy : Nat → Shp} {g : Hp} {P : Pst} {x1 : Int} (hn : 100 ≤ n) (h : Runs miX11_topGiven d [.ref 1, I_ x1] n (W0 dy) g (fun v n' S' g' => V miX11_wrong (d + 1) 5 [(0, .ref 1), (1, I_ x1)] (v.toList ++ []) n' S' g' 0 0 P)) : Runs miX11_wrong (d + 1) [.ref 1, I_ x1] n (W0 dy) g P := Runs.of rfl rfl deX11_wrong (Nat.le_of_ble_eq_true rfl) (bX11_wrong_0 hn h)
theorem lv11_171_tie_10 : LkV miX11_tie miX11_rodGiven 171 1 10 := ⟨⟨⟨tbG_in (List.mem_append_right _ (List.mem_of_getElem? (i := 617) (by decide +kernel))) rfl, tbG_in (List.mem_append_right _ (List.mem_of_getElem? (i := 1) (by decide +kernel))) rfl, tbG_in (List.mem_append_right _ (List.mem_of_getElem? (i := 614) (by decide +kernel))) rfl⟩, ⟨by decide +kernel, by decide +kernel, by decide +kernel⟩, by decide⟩, tbG_in (List.mem_append_right _ (List.mem_of_getElem? (i := 616) (by decide +kernel))) rfl, RX11, TX11, 13, rfl, tbG_in (List.mem_append_left _ (List.mem_of_getElem? (i := 14) (by decide +kernel))) rfl⟩
theorem lv11_227_tie_1 : LkV miX11_tie miX1_gather 227 1 1 := ⟨⟨⟨tbG_in (List.mem_append_right _ (List.mem_of_getElem? (i := 682) (by decide +kernel))) rfl, tbG_in (List.mem_append_right _ (List.mem_of_getElem? (i := 2) (by decide +kernel))) rfl, tbG_in (List.mem_append_right _ (List.mem_of_getElem? (i := 679) (by decide +kernel))) rfl⟩, ⟨by decide +kernel, by decide +kernel, by decide +kernel⟩, by decide⟩, tbG_in (List.mem_append_right _ (List.mem_of_getElem? (i := 680) (by decide +kernel))) rfl, RX1, TX1, 3, rfl, tbG_in (List.mem_append_right _ (List.mem_of_getElem? (i := 681) (by decide +kernel))) rfl⟩
theorem lv11_135_tie_10 : LkV miX11_tie miX11_none 135 1 10 := ⟨⟨⟨tbG_in (List.mem_append_right _ (List.mem_of_getElem? (i := 336) (by decide +kernel))) rfl, tbG_in (List.mem_append_right _ (List.mem_of_getElem? (i := 1) (by decide +kernel))) rfl, tbG_in (List.mem_append_right _ (List.mem_of_getElem? (i := 333) (by decide +kernel))) rfl⟩, ⟨by decide +kernel, by decide +kernel, by decide +kernel⟩, by decide⟩, tbG_in (List.mem_append_right _ (List.mem_of_getElem? (i := 335) (by decide +kernel))) rfl, RX11, TX11, 13, rfl, tbG_in (List.mem_append_left _ (List.mem_of_getElem? (i := 4) (by decide +kernel))) rfl⟩
theorem lv11_246_tie_5 : LkV miX11_tie miX6_canBeLevel 246 0 5 := ⟨⟨⟨tbG_in (List.mem_append_right _ (List.mem_of_getElem? (i := 727) (by decide +kernel))) rfl, tbG_in (List.mem_append_right _ (List.mem_of_getElem? (i := 14) (by decide +kernel))) rfl, tbG_in (List.mem_append_right _ (List.mem_of_getElem? (i := 724) (by decide +kernel))) rfl⟩, ⟨by decide +kernel, by decide +kernel, by decide +kernel⟩, by decide⟩, tbG_in (List.mem_append_right _ (List.mem_of_getElem? (i := 725) (by decide +kernel))) rfl, RX6, TX6, 16, rfl, tbG_in (List.mem_append_right _ (List.mem_of_getElem? (i := 726) (by decide +kernel))) rfl⟩
theorem lv11_252_tie_5 : LkV miX11_tie miX6_levelLower 252 0 5 := ⟨⟨⟨tbG_in (List.mem_append_right _ (List.mem_of_getElem? (i := 744) (by decide +kernel))) rfl, tbG_in (List.mem_append_right _ (List.mem_of_getElem? (i := 14) (by decide +kernel))) rfl, tbG_in (List.mem_append_right _ (List.mem_of_getElem? (i := 741) (by decide +kernel))) rfl⟩, ⟨by decide +kernel, by decide +kernel, by decide +kernel⟩, by decide⟩, tbG_in (List.mem_append_right _ (List.mem_of_getElem? (i := 742) (by decide +kernel))) rfl, RX6, TX6, 16, rfl, tbG_in (List.mem_append_right _ (List.mem_of_getElem? (i := 743) (by decide +kernel))) rfl⟩
theorem lv11_249_tie_5 : LkV miX11_tie miX6_levelUpper 249 0 5 := ⟨⟨⟨tbG_in (List.mem_append_right _ (List.mem_of_getElem? (i := 739) (by decide +kernel))) rfl, tbG_in (List.mem_append_right _ (List.mem_of_getElem? (i := 14) (by decide +kernel))) rfl, tbG_in (List.mem_append_right _ (List.mem_of_getElem? (i := 736) (by decide +kernel))) rfl⟩, ⟨by decide +kernel, by decide +kernel, by decide +kernel⟩, by decide⟩, tbG_in (List.mem_append_right _ (List.mem_of_getElem? (i := 737) (by decide +kernel))) rfl, RX6, TX6, 16, rfl, tbG_in (List.mem_append_right _ (List.mem_of_getElem? (i := 738) (by decide +kernel))) rfl⟩
set_option maxHeartbeats 8000000 in
set_option maxRecDepth 4000 in
theorem bX11_tie_0 {d n : Nat} {dy : Nat → Shp} {g : Hp} {P : Pst} {x1 : Int} {x2 : Int} (hn : 100 ≤ n) (h : Runs miX11_rodGiven d [.ref 1, I_ x1] n (W0 dy) g (fun v n' S' g' => V miX11_tie (d + 1) 5 [(0, .ref 1), (1, I_ x1), (2, I_ x2)] (v.toList ++ []) n' S' g' 0 0 P)) : V miX11_tie (d + 1) 0 [(0, .ref 1), (1, I_ x1), (2, I_ x2)] [] n (W0 dy) g 0 0 P := by
  refine v_aload_n 0 0 rfl rfl rfl ?_
  refine v_iload_n 1 1 rfl rfl rfl ?_
  refine v_callV (st := []) [I_ x1] 2 rfl lv11_171_tie_10 (al 1 rfl hn) (wk1 dy) (by decide) rfl (Nat.le_refl _) (Nat.le_refl _) ?_
  exact h
set_option maxHeartbeats 8000000 in
set_option maxRecDepth 4000 in
theorem bX11_tie_5 {d n : Nat} {dy : Nat → Shp} {g : Hp} {P : Pst} {x1 : Int} {x2 : Int} {rs0 : Nat} (hn : 100 ≤ n) (h : ((0 < rs0) → (i3 x2) ∧ ((x2 = 0) → Runs miX1_gather d [.ref 4, .ref rs0] n (W0 dy) g (fun v n' S' g' => V miX11_tie (d + 1) 39 [(0, .ref 1), (1, I_ x1), (2, I_ x2), (3, .ref rs0)] (v.toList ++ []) n' S' g' 0 0 P)) ∧ ((x2 ≠ 0) → ((x2 = 1) → Runs miX1_gather d [.ref 4, .ref rs0] n (W0 dy) g (fun v n' S' g' => V miX11_tie (d + 1) 39 [(0, .ref 1), (1, I_ x1), (2, I_ x2), (3, .ref rs0)] (v.toList ++ []) n' S' g' 0 0 P)) ∧ ((x2 ≠ 1) → Runs miX11_none d [.ref 1, I_ 7] n (W0 dy) g (fun v n' S' g' => V miX11_tie (d + 1) 29 [(0, .ref 1), (1, I_ x1), (2, I_ x2), (3, .ref rs0)] (v.toList ++ []) n' S' g' 0 0 P)))) ∧ ((rs0 = 0) → P (some (L_ ((-1)))) n (W0 dy) g)) : V miX11_tie (d + 1) 5 [(0, .ref 1), (1, I_ x1), (2, I_ x2)] [.ref rs0] n (W0 dy) g 0 0 P := by
  refine v_astore_n 3 [1, 2, 3, 0] rfl rfl (by decide) rfl ?_
  refine v_aload_n 4 3 rfl rfl rfl ?_
  refine v_ifnonnull 5 rfl (tgt := 14) rfl (fun q1 => ?_) (fun q1 => ?_)
  · have h := h.1 q1
    refine v_iload_n 8 2 rfl rfl rfl ?_
    have c2 := h.1
    have h := h.2
    refine v_if_eq 9 rfl (tgt := 31) rfl c2 (fun q3 => ?_) (fun q3 => ?_)
    · have h := h.1 q3
      refine v_aload_n 18 0 rfl rfl rfl ?_
      refine v_gK 19 rfl fl11_31_10.r (al 1 rfl hn) (wk1 dy) (by decide) rfl (r := 4) (wc1_4 dy) ?_
      refine v_aload_n 20 3 rfl rfl rfl ?_
      refine v_callV (st := []) [.ref rs0] 21 rfl lv11_227_tie_1 (al 4 rfl hn) (wk4 dy) (by decide) rfl (Nat.le_refl _) (Nat.le_refl _) ?_
      exact h
    · have h := h.2 q3
      refine v_iload_n 10 2 rfl rfl rfl ?_
      refine v_iconst 11 rfl ?_
      refine v_icmp_eq 12 rfl (tgt := 31) rfl c2 (by decide) (fun q4 => ?_) (fun q4 => ?_)
      · have h := h.1 q4
        refine v_aload_n 18 0 rfl rfl rfl ?_
        refine v_gK 19 rfl fl11_31_10.r (al 1 rfl hn) (wk1 dy) (by decide) rfl (r := 4) (wc1_4 dy) ?_
        refine v_aload_n 20 3 rfl rfl rfl ?_
        refine v_callV (st := []) [.ref rs0] 21 rfl lv11_227_tie_1 (al 4 rfl hn) (wk4 dy) (by decide) rfl (Nat.le_refl _) (Nat.le_refl _) ?_
        exact h
      · have h := h.2 q4
        refine v_aload_n 13 0 rfl rfl rfl ?_
        refine v_bipush 14 rfl (by decide) ?_
        refine v_callV (st := []) [I_ 7] 15 rfl lv11_135_tie_10 (al 1 rfl hn) (wk1 dy) (by decide) rfl (Nat.le_refl _) (Nat.le_refl _) ?_
        exact h
  · have h := h.2 q1
    refine v_ldc2 (v := (-1)) 6 rfl (tbG_in (List.mem_append_right _ (List.mem_of_getElem? (i := 312) (by decide +kernel))) rfl) ?_
    exact v_ret (v := some (L_ ((-1)))) 7 rfl (Nat.zero_le _) (Nat.zero_le _) trivial rfl h
set_option maxHeartbeats 8000000 in
set_option maxRecDepth 4000 in
theorem bX11_tie_29 {d n : Nat} {dy : Nat → Shp} {g : Hp} {P : Pst} {x1 : Int} {x2 : Int} {r3 : Nat} {xs0 : Int} (hn : 100 ≤ n) (h : (i3 xs0) ∧ P (some (L_ xs0)) n (W0 dy) g) : V miX11_tie (d + 1) 29 [(0, .ref 1), (1, I_ x1), (2, I_ x2), (3, .ref r3)] [I_ xs0] n (W0 dy) g 0 0 P := by
  have c1 := h.1
  have h := h.2
  refine v_i2l 16 rfl c1 ?_
  exact v_ret (v := some (L_ xs0)) 17 rfl (Nat.zero_le _) (Nat.zero_le _) trivial rfl h
set_option maxHeartbeats 8000000 in
set_option maxRecDepth 4000 in
theorem bX11_tie_39 {d n : Nat} {dy : Nat → Shp} {g : Hp} {P : Pst} {x1 : Int} {x2 : Int} {r3 : Nat} (hn : 100 ≤ n) (h : (Ob n (W0 dy) r3 5) ∧ Runs miX6_canBeLevel d [.ref r3] n (W0 dy) g (fun v n' S' g' => V miX11_tie (d + 1) 43 [(0, .ref 1), (1, I_ x1), (2, I_ x2), (3, .ref r3)] (v.toList ++ []) n' S' g' 0 0 P)) : V miX11_tie (d + 1) 39 [(0, .ref 1), (1, I_ x1), (2, I_ x2), (3, .ref r3)] [] n (W0 dy) g 0 0 P := by
  refine v_aload_n 22 3 rfl rfl rfl ?_
  have c1 := h.1
  have h := h.2
  refine v_callV (st := []) [] 23 rfl lv11_246_tie_5 c1.1 c1.2.1 (by decide) rfl (Nat.le_refl _) (Nat.le_refl _) ?_
  exact h
set_option maxHeartbeats 8000000 in
set_option maxRecDepth 4000 in
theorem bX11_tie_43 {d n : Nat} {dy : Nat → Shp} {g : Hp} {P : Pst} {x1 : Int} {x2 : Int} {r3 : Nat} {xs0 : Int} (hn : 100 ≤ n) (h : (i3 xs0) ∧ ((xs0 ≠ 0) → (i3 x2) ∧ ((x2 ≠ 0) → (Ob n (W0 dy) r3 5) ∧ Runs miX6_levelLower d [.ref r3] n (W0 dy) g (fun v n' S' g' => V miX11_tie (d + 1) 70 [(0, .ref 1), (1, I_ x1), (2, I_ x2), (3, .ref r3)] (v.toList ++ []) n' S' g' 0 0 P)) ∧ ((x2 = 0) → (Ob n (W0 dy) r3 5) ∧ Runs miX6_levelUpper d [.ref r3] n (W0 dy) g (fun v n' S' g' => V miX11_tie (d + 1) 62 [(0, .ref 1), (1, I_ x1), (2, I_ x2), (3, .ref r3)] (v.toList ++ []) n' S' g' 0 0 P))) ∧ ((xs0 = 0) → Runs miX11_none d [.ref 1, I_ 11] n (W0 dy) g (fun v n' S' g' => V miX11_tie (d + 1) 52 [(0, .ref 1), (1, I_ x1), (2, I_ x2), (3, .ref r3)] (v.toList ++ []) n' S' g' 0 0 P))) : V miX11_tie (d + 1) 43 [(0, .ref 1), (1, I_ x1), (2, I_ x2), (3, .ref r3)] [I_ xs0] n (W0 dy) g 0 0 P := by
  have c1 := h.1
  have h := h.2
  refine v_if_ne 24 rfl (tgt := 54) rfl c1 (fun q2 => ?_) (fun q2 => ?_)
  · have h := h.1 q2
    refine v_iload_n 30 2 rfl rfl rfl ?_
    have c3 := h.1
    have h := h.2
    refine v_if_ne 31 rfl (tgt := 66) rfl c3 (fun q4 => ?_) (fun q4 => ?_)
    · have h := h.1 q4
      refine v_aload_n 36 3 rfl rfl rfl ?_
      have c5 := h.1
      have h := h.2
      refine v_callV (st := []) [] 37 rfl lv11_252_tie_5 c5.1 c5.2.1 (by decide) rfl (Nat.le_refl _) (Nat.le_refl _) ?_
      exact h
    · have h := h.2 q4
      refine v_aload_n 32 3 rfl rfl rfl ?_
      have c6 := h.1
      have h := h.2
      refine v_callV (st := []) [] 33 rfl lv11_249_tie_5 c6.1 c6.2.1 (by decide) rfl (Nat.le_refl _) (Nat.le_refl _) ?_
      exact h
  · have h := h.2 q2
    refine v_aload_n 25 0 rfl rfl rfl ?_
    refine v_bipush 26 rfl (by decide) ?_
    refine v_callV (st := []) [I_ 11] 27 rfl lv11_135_tie_10 (al 1 rfl hn) (wk1 dy) (by decide) rfl (Nat.le_refl _) (Nat.le_refl _) ?_
    exact h
set_option maxHeartbeats 8000000 in
set_option maxRecDepth 4000 in
theorem bX11_tie_52 {d n : Nat} {dy : Nat → Shp} {g : Hp} {P : Pst} {x1 : Int} {x2 : Int} {r3 : Nat} {xs0 : Int} (hn : 100 ≤ n) (h : (i3 xs0) ∧ P (some (L_ xs0)) n (W0 dy) g) : V miX11_tie (d + 1) 52 [(0, .ref 1), (1, I_ x1), (2, I_ x2), (3, .ref r3)] [I_ xs0] n (W0 dy) g 0 0 P := by
  have c1 := h.1
  have h := h.2
  refine v_i2l 28 rfl c1 ?_
  exact v_ret (v := some (L_ xs0)) 29 rfl (Nat.zero_le _) (Nat.zero_le _) trivial rfl h
set_option maxHeartbeats 8000000 in
set_option maxRecDepth 4000 in
theorem bX11_tie_62 {d n : Nat} {dy : Nat → Shp} {g : Hp} {P : Pst} {x1 : Int} {x2 : Int} {r3 : Nat} {xs0 : Int} (hn : 100 ≤ n) (h : (i3 xs0) ∧ P (some (L_ xs0)) n (W0 dy) g) : V miX11_tie (d + 1) 62 [(0, .ref 1), (1, I_ x1), (2, I_ x2), (3, .ref r3)] [I_ xs0] n (W0 dy) g 0 0 P := by
  have c1 := h.1
  have h := h.2
  refine v_i2l 34 rfl c1 ?_
  refine v_goto 35 rfl (tgt := 71) rfl ?_
  exact v_ret (v := some (L_ xs0)) 39 rfl (Nat.zero_le _) (Nat.zero_le _) trivial rfl h
set_option maxHeartbeats 8000000 in
set_option maxRecDepth 4000 in
theorem bX11_tie_70 {d n : Nat} {dy : Nat → Shp} {g : Hp} {P : Pst} {x1 : Int} {x2 : Int} {r3 : Nat} {xs0 : Int} (hn : 100 ≤ n) (h : (i3 xs0) ∧ P (some (L_ xs0)) n (W0 dy) g) : V miX11_tie (d + 1) 70 [(0, .ref 1), (1, I_ x1), (2, I_ x2), (3, .ref r3)] [I_ xs0] n (W0 dy) g 0 0 P := by
  have c1 := h.1
  have h := h.2
  refine v_i2l 38 rfl c1 ?_
  exact v_ret (v := some (L_ xs0)) 39 rfl (Nat.zero_le _) (Nat.zero_le _) trivial rfl h
theorem wX11_tie {d n : Nat} {dy : Nat → Shp} {g : Hp} {P : Pst} {x1 : Int} {x2 : Int} (hn : 100 ≤ n) (h : Runs miX11_rodGiven d [.ref 1, I_ x1] n (W0 dy) g (fun v n' S' g' => V miX11_tie (d + 1) 5 [(0, .ref 1), (1, I_ x1), (2, I_ x2)] (v.toList ++ []) n' S' g' 0 0 P)) : Runs miX11_tie (d + 1) [.ref 1, I_ x1, I_ x2] n (W0 dy) g P := Runs.of rfl rfl deX11_tie (Nat.le_of_ble_eq_true rfl) (bX11_tie_0 hn h)
theorem lv11_239_all_10 : LkV miX11_all miX11_topGiven 239 1 10 := ⟨⟨⟨tbG_in (List.mem_append_right _ (List.mem_of_getElem? (i := 714) (by decide +kernel))) rfl, tbG_in (List.mem_append_right _ (List.mem_of_getElem? (i := 1) (by decide +kernel))) rfl, tbG_in (List.mem_append_right _ (List.mem_of_getElem? (i := 711) (by decide +kernel))) rfl⟩, ⟨by decide +kernel, by decide +kernel, by decide +kernel⟩, by decide⟩, tbG_in (List.mem_append_right _ (List.mem_of_getElem? (i := 713) (by decide +kernel))) rfl, RX11, TX11, 13, rfl, tbG_in (List.mem_append_left _ (List.mem_of_getElem? (i := 16) (by decide +kernel))) rfl⟩
theorem lv11_227_all_1 : LkV miX11_all miX1_gather 227 1 1 := ⟨⟨⟨tbG_in (List.mem_append_right _ (List.mem_of_getElem? (i := 682) (by decide +kernel))) rfl, tbG_in (List.mem_append_right _ (List.mem_of_getElem? (i := 2) (by decide +kernel))) rfl, tbG_in (List.mem_append_right _ (List.mem_of_getElem? (i := 679) (by decide +kernel))) rfl⟩, ⟨by decide +kernel, by decide +kernel, by decide +kernel⟩, by decide⟩, tbG_in (List.mem_append_right _ (List.mem_of_getElem? (i := 680) (by decide +kernel))) rfl, RX1, TX1, 3, rfl, tbG_in (List.mem_append_right _ (List.mem_of_getElem? (i := 681) (by decide +kernel))) rfl⟩
theorem lv11_255_all_1 : LkV miX11_all miX1_canAllBeLevel 255 0 1 := ⟨⟨⟨tbG_in (List.mem_append_right _ (List.mem_of_getElem? (i := 752) (by decide +kernel))) rfl, tbG_in (List.mem_append_right _ (List.mem_of_getElem? (i := 2) (by decide +kernel))) rfl, tbG_in (List.mem_append_right _ (List.mem_of_getElem? (i := 749) (by decide +kernel))) rfl⟩, ⟨by decide +kernel, by decide +kernel, by decide +kernel⟩, by decide⟩, tbG_in (List.mem_append_right _ (List.mem_of_getElem? (i := 750) (by decide +kernel))) rfl, RX1, TX1, 3, rfl, tbG_in (List.mem_append_right _ (List.mem_of_getElem? (i := 751) (by decide +kernel))) rfl⟩
theorem lv11_258_all_1 : LkV miX11_all miX1_tieAllLevel 258 0 1 := ⟨⟨⟨tbG_in (List.mem_append_right _ (List.mem_of_getElem? (i := 757) (by decide +kernel))) rfl, tbG_in (List.mem_append_right _ (List.mem_of_getElem? (i := 2) (by decide +kernel))) rfl, tbG_in (List.mem_append_right _ (List.mem_of_getElem? (i := 754) (by decide +kernel))) rfl⟩, ⟨by decide +kernel, by decide +kernel, by decide +kernel⟩, by decide⟩, tbG_in (List.mem_append_right _ (List.mem_of_getElem? (i := 755) (by decide +kernel))) rfl, RX1, TX1, 3, rfl, tbG_in (List.mem_append_right _ (List.mem_of_getElem? (i := 756) (by decide +kernel))) rfl⟩
theorem lv11_135_all_10 : LkV miX11_all miX11_none 135 1 10 := ⟨⟨⟨tbG_in (List.mem_append_right _ (List.mem_of_getElem? (i := 336) (by decide +kernel))) rfl, tbG_in (List.mem_append_right _ (List.mem_of_getElem? (i := 1) (by decide +kernel))) rfl, tbG_in (List.mem_append_right _ (List.mem_of_getElem? (i := 333) (by decide +kernel))) rfl⟩, ⟨by decide +kernel, by decide +kernel, by decide +kernel⟩, by decide⟩, tbG_in (List.mem_append_right _ (List.mem_of_getElem? (i := 335) (by decide +kernel))) rfl, RX11, TX11, 13, rfl, tbG_in (List.mem_append_left _ (List.mem_of_getElem? (i := 4) (by decide +kernel))) rfl⟩
set_option maxHeartbeats 8000000 in
set_option maxRecDepth 4000 in
theorem bX11_all_0 {d n : Nat} {dy : Nat → Shp} {g : Hp} {P : Pst} {x1 : Int} (hn : 100 ≤ n) (h : Runs miX11_topGiven d [.ref 1, I_ x1] n (W0 dy) g (fun v n' S' g' => V miX11_all (d + 1) 5 [(0, .ref 1), (1, I_ x1)] (v.toList ++ []) n' S' g' 0 0 P)) : V miX11_all (d + 1) 0 [(0, .ref 1), (1, I_ x1)] [] n (W0 dy) g 0 0 P := by
  refine v_aload_n 0 0 rfl rfl rfl ?_
  refine v_iload_n 1 1 rfl rfl rfl ?_
  refine v_callV (st := []) [I_ x1] 2 rfl lv11_239_all_10 (al 1 rfl hn) (wk1 dy) (by decide) rfl (Nat.le_refl _) (Nat.le_refl _) ?_
  exact h
set_option maxHeartbeats 8000000 in
set_option maxRecDepth 4000 in
theorem bX11_all_5 {d n : Nat} {dy : Nat → Shp} {g : Hp} {P : Pst} {x1 : Int} {rs0 : Nat} (hn : 100 ≤ n) (h : ((0 < rs0) → Runs miX1_gather d [.ref 4, .ref rs0] n (W0 dy) g (fun v n' S' g' => V miX11_all (d + 1) 20 [(0, .ref 1), (1, I_ x1), (2, .ref rs0)] (v.toList ++ []) n' S' g' 0 0 P)) ∧ ((rs0 = 0) → P (some (I_ ((-1)))) n (W0 dy) g)) : V miX11_all (d + 1) 5 [(0, .ref 1), (1, I_ x1)] [.ref rs0] n (W0 dy) g 0 0 P := by
  refine v_astore_n 3 [1, 2, 0] rfl rfl (by decide) rfl ?_
  refine v_aload_n 4 2 rfl rfl rfl ?_
  refine v_ifnonnull 5 rfl (tgt := 12) rfl (fun q1 => ?_) (fun q1 => ?_)
  · have h := h.1 q1
    refine v_aload_n 8 0 rfl rfl rfl ?_
    refine v_gK 9 rfl fl11_31_10.r (al 1 rfl hn) (wk1 dy) (by decide) rfl (r := 4) (wc1_4 dy) ?_
    refine v_aload_n 10 2 rfl rfl rfl ?_
    refine v_callV (st := []) [.ref rs0] 11 rfl lv11_227_all_1 (al 4 rfl hn) (wk4 dy) (by decide) rfl (Nat.le_refl _) (Nat.le_refl _) ?_
    exact h
  · have h := h.2 q1
    refine v_iconst 6 rfl ?_
    exact v_ret (v := some (I_ ((-1)))) 7 rfl (Nat.zero_le _) (Nat.zero_le _) trivial rfl h
set_option maxHeartbeats 8000000 in
set_option maxRecDepth 4000 in
theorem bX11_all_20 {d n : Nat} {dy : Nat → Shp} {g : Hp} {P : Pst} {x1 : Int} {r2 : Nat} (hn : 100 ≤ n) (h : Runs miX1_canAllBeLevel d [.ref 4] n (W0 dy) g (fun v n' S' g' => V miX11_all (d + 1) 27 [(0, .ref 1), (1, I_ x1), (2, .ref r2)] (v.toList ++ []) n' S' g' 0 0 P)) : V miX11_all (d + 1) 20 [(0, .ref 1), (1, I_ x1), (2, .ref r2)] [] n (W0 dy) g 0 0 P := by
  refine v_aload_n 12 0 rfl rfl rfl ?_
  refine v_gK 13 rfl fl11_31_10.r (al 1 rfl hn) (wk1 dy) (by decide) rfl (r := 4) (wc1_4 dy) ?_
  refine v_callV (st := []) [] 14 rfl lv11_255_all_1 (al 4 rfl hn) (wk4 dy) (by decide) rfl (Nat.le_refl _) (Nat.le_refl _) ?_
  exact h
set_option maxHeartbeats 8000000 in
set_option maxRecDepth 4000 in
theorem bX11_all_27 {d n : Nat} {dy : Nat → Shp} {g : Hp} {P : Pst} {x1 : Int} {r2 : Nat} {xs0 : Int} (hn : 100 ≤ n) (h : (i3 xs0) ∧ ((xs0 ≠ 0) → Runs miX1_tieAllLevel d [.ref 4] n (W0 dy) g (fun v n' S' g' => V miX11_all (d + 1) 44 [(0, .ref 1), (1, I_ x1), (2, .ref r2)] (v.toList ++ []) n' S' g' 0 0 P)) ∧ ((xs0 = 0) → Runs miX11_none d [.ref 1, I_ 11] n (W0 dy) g (fun v n' S' g' => V miX11_all (d + 1) 36 [(0, .ref 1), (1, I_ x1), (2, .ref r2)] (v.toList ++ []) n' S' g' 0 0 P))) : V miX11_all (d + 1) 27 [(0, .ref 1), (1, I_ x1), (2, .ref r2)] [I_ xs0] n (W0 dy) g 0 0 P := by
  have c1 := h.1
  have h := h.2
  refine v_if_ne 15 rfl (tgt := 37) rfl c1 (fun q2 => ?_) (fun q2 => ?_)
  · have h := h.1 q2
    refine v_aload_n 20 0 rfl rfl rfl ?_
    refine v_gK 21 rfl fl11_31_10.r (al 1 rfl hn) (wk1 dy) (by decide) rfl (r := 4) (wc1_4 dy) ?_
    refine v_callV (st := []) [] 22 rfl lv11_258_all_1 (al 4 rfl hn) (wk4 dy) (by decide) rfl (Nat.le_refl _) (Nat.le_refl _) ?_
    exact h
  · have h := h.2 q2
    refine v_aload_n 16 0 rfl rfl rfl ?_
    refine v_bipush 17 rfl (by decide) ?_
    refine v_callV (st := []) [I_ 11] 18 rfl lv11_135_all_10 (al 1 rfl hn) (wk1 dy) (by decide) rfl (Nat.le_refl _) (Nat.le_refl _) ?_
    exact h
set_option maxHeartbeats 8000000 in
set_option maxRecDepth 4000 in
theorem bX11_all_36 {d n : Nat} {dy : Nat → Shp} {g : Hp} {P : Pst} {x1 : Int} {r2 : Nat} {xs0 : Int} (hn : 100 ≤ n) (h : P (some (I_ xs0)) n (W0 dy) g) : V miX11_all (d + 1) 36 [(0, .ref 1), (1, I_ x1), (2, .ref r2)] [I_ xs0] n (W0 dy) g 0 0 P := by
  exact v_ret (v := some (I_ xs0)) 19 rfl (Nat.zero_le _) (Nat.zero_le _) trivial rfl h
set_option maxHeartbeats 8000000 in
set_option maxRecDepth 4000 in
theorem bX11_all_44 {d n : Nat} {dy : Nat → Shp} {g : Hp} {P : Pst} {x1 : Int} {r2 : Nat} {xs0 : Int} (hn : 100 ≤ n) (h : P (some (I_ xs0)) n (W0 dy) g) : V miX11_all (d + 1) 44 [(0, .ref 1), (1, I_ x1), (2, .ref r2)] [I_ xs0] n (W0 dy) g 0 0 P := by
  exact v_ret (v := some (I_ xs0)) 23 rfl (Nat.zero_le _) (Nat.zero_le _) trivial rfl h
theorem wX11_all {d n : Nat} {dy : Nat → Shp} {g : Hp} {P : Pst} {x1 : Int} (hn : 100 ≤ n) (h : Runs miX11_topGiven d [.ref 1, I_ x1] n (W0 dy) g (fun v n' S' g' => V miX11_all (d + 1) 5 [(0, .ref 1), (1, I_ x1)] (v.toList ++ []) n' S' g' 0 0 P)) : Runs miX11_all (d + 1) [.ref 1, I_ x1] n (W0 dy) g P := Runs.of rfl rfl deX11_all (Nat.le_of_ble_eq_true rfl) (bX11_all_0 hn h)
theorem fl11_45_10 : FL RX11 45 10 6 true (.object "MobileMaker$Span") := ⟨RX11, TX11, 13, "MobileMaker", rfl, rfl, by decide, kf10, tbG_in (List.mem_append_right _ (List.mem_of_getElem? (i := 222) (by decide +kernel))) rfl, Or.inl rfl, rfl, by decide +kernel, ⟨tyX11, tyX11_ok⟩, nmX11, fun _ => rfl⟩
theorem fl11_261_5 : FL RX11 261 5 3 false (.object "MobileMaker$Rod") := ⟨RX6, TX6, 16, "MobileMaker$Rod", rfl, rfl, by decide, kf5, tbG_in (List.mem_append_right _ (List.mem_of_getElem? (i := 370) (by decide +kernel))) rfl, Or.inr (tbG_in (List.mem_append_right _ (List.mem_of_getElem? (i := 366) (by decide +kernel))) rfl), rfl, by decide +kernel, ⟨tyX6, tyX6_ok⟩, nmX6, fun h => by cases h⟩
theorem fl11_266_6 : FL RX11 266 6 2 false .boolean := ⟨RX7, TX7, 3, "MobileMaker$Span", rfl, rfl, by decide, kf6, tbG_in (List.mem_append_right _ (List.mem_of_getElem? (i := 80) (by decide +kernel))) rfl, Or.inl rfl, rfl, by decide +kernel, ⟨tyX7, tyX7_ok⟩, nmX7, fun h => by cases h⟩
theorem fl11_270_6 : FL RX11 270 6 0 false .int := ⟨RX7, TX7, 3, "MobileMaker$Span", rfl, rfl, by decide, kf6, tbG_in (List.mem_append_right _ (List.mem_of_getElem? (i := 77) (by decide +kernel))) rfl, Or.inl rfl, rfl, by decide +kernel, ⟨tyX7, tyX7_ok⟩, nmX7, fun h => by cases h⟩
theorem lv11_163_reach_10 : LkV miX11_reach miX11_partAt 163 1 10 := ⟨⟨⟨tbG_in (List.mem_append_right _ (List.mem_of_getElem? (i := 600) (by decide +kernel))) rfl, tbG_in (List.mem_append_right _ (List.mem_of_getElem? (i := 1) (by decide +kernel))) rfl, tbG_in (List.mem_append_right _ (List.mem_of_getElem? (i := 597) (by decide +kernel))) rfl⟩, ⟨by decide +kernel, by decide +kernel, by decide +kernel⟩, by decide⟩, tbG_in (List.mem_append_right _ (List.mem_of_getElem? (i := 599) (by decide +kernel))) rfl, RX11, TX11, 13, rfl, tbG_in (List.mem_append_left _ (List.mem_of_getElem? (i := 13) (by decide +kernel))) rfl⟩
theorem lv11_135_reach_10 : LkV miX11_reach miX11_none 135 1 10 := ⟨⟨⟨tbG_in (List.mem_append_right _ (List.mem_of_getElem? (i := 336) (by decide +kernel))) rfl, tbG_in (List.mem_append_right _ (List.mem_of_getElem? (i := 1) (by decide +kernel))) rfl, tbG_in (List.mem_append_right _ (List.mem_of_getElem? (i := 333) (by decide +kernel))) rfl⟩, ⟨by decide +kernel, by decide +kernel, by decide +kernel⟩, by decide⟩, tbG_in (List.mem_append_right _ (List.mem_of_getElem? (i := 335) (by decide +kernel))) rfl, RX11, TX11, 13, rfl, tbG_in (List.mem_append_left _ (List.mem_of_getElem? (i := 4) (by decide +kernel))) rfl⟩
theorem ls11_182_reach : LkS miX11_reach miX11_asRod 182 1 := ⟨⟨⟨tbG_in (List.mem_append_right _ (List.mem_of_getElem? (i := 620) (by decide +kernel))) rfl, tbG_in (List.mem_append_right _ (List.mem_of_getElem? (i := 1) (by decide +kernel))) rfl, tbG_in (List.mem_append_right _ (List.mem_of_getElem? (i := 618) (by decide +kernel))) rfl⟩, ⟨by decide +kernel, by decide +kernel, by decide +kernel⟩, by decide⟩, tbG_in (List.mem_append_right _ (List.mem_of_getElem? (i := 619) (by decide +kernel))) rfl⟩
theorem ls11_192_reach : LkS miX11_reach miX11_isAbove 192 2 := ⟨⟨⟨tbG_in (List.mem_append_right _ (List.mem_of_getElem? (i := 645) (by decide +kernel))) rfl, tbG_in (List.mem_append_right _ (List.mem_of_getElem? (i := 1) (by decide +kernel))) rfl, tbG_in (List.mem_append_right _ (List.mem_of_getElem? (i := 643) (by decide +kernel))) rfl⟩, ⟨by decide +kernel, by decide +kernel, by decide +kernel⟩, by decide⟩, tbG_in (List.mem_append_right _ (List.mem_of_getElem? (i := 644) (by decide +kernel))) rfl⟩
theorem lv11_262_reach_6 : LkV miX11_reach miX7_measure 262 2 6 := ⟨⟨⟨tbG_in (List.mem_append_right _ (List.mem_of_getElem? (i := 771) (by decide +kernel))) rfl, tbG_in (List.mem_append_right _ (List.mem_of_getElem? (i := 4) (by decide +kernel))) rfl, tbG_in (List.mem_append_right _ (List.mem_of_getElem? (i := 768) (by decide +kernel))) rfl⟩, ⟨by decide +kernel, by decide +kernel, by decide +kernel⟩, by decide⟩, tbG_in (List.mem_append_right _ (List.mem_of_getElem? (i := 769) (by decide +kernel))) rfl, RX7, TX7, 3, rfl, tbG_in (List.mem_append_right _ (List.mem_of_getElem? (i := 770) (by decide +kernel))) rfl⟩
theorem lv11_273_reach_6 : LkV miX11_reach miX7_least 273 0 6 := ⟨⟨⟨tbG_in (List.mem_append_right _ (List.mem_of_getElem? (i := 784) (by decide +kernel))) rfl, tbG_in (List.mem_append_right _ (List.mem_of_getElem? (i := 4) (by decide +kernel))) rfl, tbG_in (List.mem_append_right _ (List.mem_of_getElem? (i := 781) (by decide +kernel))) rfl⟩, ⟨by decide +kernel, by decide +kernel, by decide +kernel⟩, by decide⟩, tbG_in (List.mem_append_right _ (List.mem_of_getElem? (i := 782) (by decide +kernel))) rfl, RX7, TX7, 3, rfl, tbG_in (List.mem_append_right _ (List.mem_of_getElem? (i := 783) (by decide +kernel))) rfl⟩
set_option maxHeartbeats 8000000 in
set_option maxRecDepth 4000 in
theorem bX11_reach_0 {d n : Nat} {dy : Nat → Shp} {g : Hp} {P : Pst} {x1 : Int} {x2 : Int} {x3 : Int} (hn : 100 ≤ n) (h : Runs miX11_partAt d [.ref 1, I_ x1] n (W0 dy) g (fun v n' S' g' => V miX11_reach (d + 1) 5 [(0, .ref 1), (1, I_ x1), (2, I_ x2), (3, I_ x3)] (v.toList ++ []) n' S' g' 0 0 P)) : V miX11_reach (d + 1) 0 [(0, .ref 1), (1, I_ x1), (2, I_ x2), (3, I_ x3)] [] n (W0 dy) g 0 0 P := by
  refine v_aload_n 0 0 rfl rfl rfl ?_
  refine v_iload_n 1 1 rfl rfl rfl ?_
  refine v_callV (st := []) [I_ x1] 2 rfl lv11_163_reach_10 (al 1 rfl hn) (wk1 dy) (by decide) rfl (Nat.le_refl _) (Nat.le_refl _) ?_
  exact h
set_option maxHeartbeats 8000000 in
set_option maxRecDepth 4000 in
theorem bX11_reach_5 {d n : Nat} {dy : Nat → Shp} {g : Hp} {P : Pst} {x1 : Int} {x2 : Int} {x3 : Int} {rs0 : Nat} (hn : 100 ≤ n) (h : Runs miX11_partAt d [.ref 1, I_ x2] n (W0 dy) g (fun v n' S' g' => V miX11_reach (d + 1) 12 [(0, .ref 1), (1, I_ x1), (2, I_ x2), (3, I_ x3), (4, .ref rs0)] (v.toList ++ []) n' S' g' 0 0 P)) : V miX11_reach (d + 1) 5 [(0, .ref 1), (1, I_ x1), (2, I_ x2), (3, I_ x3)] [.ref rs0] n (W0 dy) g 0 0 P := by
  refine v_astore 3 [1, 2, 3, 4, 0] rfl (by decide) rfl ?_
  refine v_aload_n 4 0 rfl rfl rfl ?_
  refine v_iload_n 5 2 rfl rfl rfl ?_
  refine v_callV (st := []) [I_ x2] 6 rfl lv11_163_reach_10 (al 1 rfl hn) (wk1 dy) (by decide) rfl (Nat.le_refl _) (Nat.le_refl _) ?_
  exact h
set_option maxHeartbeats 8000000 in
set_option maxRecDepth 4000 in
theorem bX11_reach_12 {d n : Nat} {dy : Nat → Shp} {g : Hp} {P : Pst} {x1 : Int} {x2 : Int} {x3 : Int} {r4 : Nat} {rs0 : Nat} (hn : 100 ≤ n) (h : ((r4 = 0) → Runs miX11_none d [.ref 1, I_ 2] n (W0 dy) g (fun v n' S' g' => V miX11_reach (d + 1) 29 [(0, .ref 1), (1, I_ x1), (2, I_ x2), (3, I_ x3), (4, .ref r4), (5, .ref rs0)] (v.toList ++ []) n' S' g' 0 0 P)) ∧ ((0 < r4) → ((0 < rs0) → Runs miX11_asRod d [.ref rs0] n (W0 dy) g (fun v n' S' g' => V miX11_reach (d + 1) 35 [(0, .ref 1), (1, I_ x1), (2, I_ x2), (3, I_ x3), (4, .ref r4), (5, .ref rs0)] (v.toList ++ []) n' S' g' 0 0 P)) ∧ ((rs0 = 0) → Runs miX11_none d [.ref 1, I_ 2] n (W0 dy) g (fun v n' S' g' => V miX11_reach (d + 1) 29 [(0, .ref 1), (1, I_ x1), (2, I_ x2), (3, I_ x3), (4, .ref r4), (5, .ref rs0)] (v.toList ++ []) n' S' g' 0 0 P)))) : V miX11_reach (d + 1) 12 [(0, .ref 1), (1, I_ x1), (2, I_ x2), (3, I_ x3), (4, .ref r4)] [.ref rs0] n (W0 dy) g 0 0 P := by
  refine v_astore 7 [1, 2, 3, 4, 5, 0] rfl (by decide) rfl ?_
  refine v_aload 8 4 rfl rfl ?_
  refine v_ifnull 9 rfl (tgt := 24) rfl (fun q1 => ?_) (fun q1 => ?_)
  · have h := h.1 q1
    refine v_aload_n 12 0 rfl rfl rfl ?_
    refine v_iconst 13 rfl ?_
    refine v_callV (st := []) [I_ 2] 14 rfl lv11_135_reach_10 (al 1 rfl hn) (wk1 dy) (by decide) rfl (Nat.le_refl _) (Nat.le_refl _) ?_
    exact h
  · have h := h.2 q1
    refine v_aload 10 5 rfl rfl ?_
    refine v_ifnonnull 11 rfl (tgt := 30) rfl (fun q2 => ?_) (fun q2 => ?_)
    · have h := h.1 q2
      refine v_aload 16 5 rfl rfl ?_
      refine v_callS (st := []) [.ref rs0] 17 rfl ls11_182_reach rfl (Nat.lt_of_lt_of_le (by decide) hn) (Nat.le_refl _) (Nat.le_refl _) ?_
      exact h
    · have h := h.2 q2
      refine v_aload_n 12 0 rfl rfl rfl ?_
      refine v_iconst 13 rfl ?_
      refine v_callV (st := []) [I_ 2] 14 rfl lv11_135_reach_10 (al 1 rfl hn) (wk1 dy) (by decide) rfl (Nat.le_refl _) (Nat.le_refl _) ?_
      exact h
set_option maxHeartbeats 8000000 in
set_option maxRecDepth 4000 in
theorem bX11_reach_29 {d n : Nat} {dy : Nat → Shp} {g : Hp} {P : Pst} {x1 : Int} {x2 : Int} {x3 : Int} {r4 : Nat} {r5 : Nat} {xs0 : Int} (hn : 100 ≤ n) (h : P (some (I_ xs0)) n (W0 dy) g) : V miX11_reach (d + 1) 29 [(0, .ref 1), (1, I_ x1), (2, I_ x2), (3, I_ x3), (4, .ref r4), (5, .ref r5)] [I_ xs0] n (W0 dy) g 0 0 P := by
  exact v_ret (v := some (I_ xs0)) 15 rfl (Nat.zero_le _) (Nat.zero_le _) trivial rfl h
set_option maxHeartbeats 8000000 in
set_option maxRecDepth 4000 in
theorem bX11_reach_35 {d n : Nat} {dy : Nat → Shp} {g : Hp} {P : Pst} {x1 : Int} {x2 : Int} {x3 : Int} {r4 : Nat} {r5 : Nat} {rs0 : Nat} (hn : 100 ≤ n) (h : ((0 < rs0) → Runs miX11_isAbove d [.ref rs0, .ref r4] n (W0 dy) g (fun v n' S' g' => V miX11_reach (d + 1) 55 [(0, .ref 1), (1, I_ x1), (2, I_ x2), (3, I_ x3), (4, .ref r4), (5, .ref r5), (6, .ref rs0)] (v.toList ++ []) n' S' g' 0 0 P)) ∧ ((rs0 = 0) → Runs miX11_none d [.ref 1, I_ 5] n (W0 dy) g (fun v n' S' g' => V miX11_reach (d + 1) 47 [(0, .ref 1), (1, I_ x1), (2, I_ x2), (3, I_ x3), (4, .ref r4), (5, .ref r5), (6, .ref rs0)] (v.toList ++ []) n' S' g' 0 0 P))) : V miX11_reach (d + 1) 35 [(0, .ref 1), (1, I_ x1), (2, I_ x2), (3, I_ x3), (4, .ref r4), (5, .ref r5)] [.ref rs0] n (W0 dy) g 0 0 P := by
  refine v_astore 18 [1, 2, 3, 4, 5, 6, 0] rfl (by decide) rfl ?_
  refine v_aload 19 6 rfl rfl ?_
  refine v_ifnonnull 20 rfl (tgt := 48) rfl (fun q1 => ?_) (fun q1 => ?_)
  · have h := h.1 q1
    refine v_aload 25 6 rfl rfl ?_
    refine v_aload 26 4 rfl rfl ?_
    refine v_callS (st := []) [.ref rs0, .ref r4] 27 rfl ls11_192_reach rfl (Nat.lt_of_lt_of_le (by decide) hn) (Nat.le_refl _) (Nat.le_refl _) ?_
    exact h
  · have h := h.2 q1
    refine v_aload_n 21 0 rfl rfl rfl ?_
    refine v_iconst 22 rfl ?_
    refine v_callV (st := []) [I_ 5] 23 rfl lv11_135_reach_10 (al 1 rfl hn) (wk1 dy) (by decide) rfl (Nat.le_refl _) (Nat.le_refl _) ?_
    exact h
set_option maxHeartbeats 8000000 in
set_option maxRecDepth 4000 in
theorem bX11_reach_47 {d n : Nat} {dy : Nat → Shp} {g : Hp} {P : Pst} {x1 : Int} {x2 : Int} {x3 : Int} {r4 : Nat} {r5 : Nat} {r6 : Nat} {xs0 : Int} (hn : 100 ≤ n) (h : P (some (I_ xs0)) n (W0 dy) g) : V miX11_reach (d + 1) 47 [(0, .ref 1), (1, I_ x1), (2, I_ x2), (3, I_ x3), (4, .ref r4), (5, .ref r5), (6, .ref r6)] [I_ xs0] n (W0 dy) g 0 0 P := by
  exact v_ret (v := some (I_ xs0)) 24 rfl (Nat.zero_le _) (Nat.zero_le _) trivial rfl h
set_option maxHeartbeats 8000000 in
set_option maxRecDepth 4000 in
theorem bX11_reach_55 {d n : Nat} {dy : Nat → Shp} {g : Hp} {P : Pst} {x1 : Int} {x2 : Int} {x3 : Int} {r4 : Nat} {r5 : Nat} {r6 : Nat} {xs0 : Int} (hn : 100 ≤ n) (h : (i3 xs0) ∧ ((xs0 ≠ 0) → (Ob n (W0 dy) r6 5) ∧ Runs miX7_measure d [.ref 9, .ref r4, .ref ((g r6 3).toNat)] n (W0 dy) g (fun v n' S' g' => V miX11_reach (d + 1) 79 [(0, .ref 1), (1, I_ x1), (2, I_ x2), (3, I_ x3), (4, .ref r4), (5, .ref r5), (6, .ref r6)] (v.toList ++ []) n' S' g' 0 0 P)) ∧ ((xs0 = 0) → Runs miX11_none d [.ref 1, I_ 8] n (W0 dy) g (fun v n' S' g' => V miX11_reach (d + 1) 64 [(0, .ref 1), (1, I_ x1), (2, I_ x2), (3, I_ x3), (4, .ref r4), (5, .ref r5), (6, .ref r6)] (v.toList ++ []) n' S' g' 0 0 P))) : V miX11_reach (d + 1) 55 [(0, .ref 1), (1, I_ x1), (2, I_ x2), (3, I_ x3), (4, .ref r4), (5, .ref r5), (6, .ref r6)] [I_ xs0] n (W0 dy) g 0 0 P := by
  have c1 := h.1
  have h := h.2
  refine v_if_ne 28 rfl (tgt := 65) rfl c1 (fun q2 => ?_) (fun q2 => ?_)
  · have h := h.1 q2
    refine v_aload_n 33 0 rfl rfl rfl ?_
    refine v_gK 34 rfl fl11_45_10.r (al 1 rfl hn) (wk1 dy) (by decide) rfl (r := 9) (wc1_6 dy) ?_
    refine v_aload 35 4 rfl rfl ?_
    refine v_aload 36 6 rfl rfl ?_
    have c3 := h.1
    have h := h.2
    refine v_gR 37 rfl fl11_261_5.r c3.1 c3.2.1 (by decide) rfl (c3.2.2 3) (x := g r6 3) rfl ?_
    refine v_callV (st := []) [.ref r4, .ref ((g r6 3).toNat)] 38 rfl lv11_262_reach_6 (al 9 rfl hn) (wk9 dy) (by decide) rfl (Nat.le_refl _) (Nat.le_refl _) ?_
    exact h
  · have h := h.2 q2
    refine v_aload_n 29 0 rfl rfl rfl ?_
    refine v_bipush 30 rfl (by decide) ?_
    refine v_callV (st := []) [I_ 8] 31 rfl lv11_135_reach_10 (al 1 rfl hn) (wk1 dy) (by decide) rfl (Nat.le_refl _) (Nat.le_refl _) ?_
    exact h
set_option maxHeartbeats 8000000 in
set_option maxRecDepth 4000 in
theorem bX11_reach_64 {d n : Nat} {dy : Nat → Shp} {g : Hp} {P : Pst} {x1 : Int} {x2 : Int} {x3 : Int} {r4 : Nat} {r5 : Nat} {r6 : Nat} {xs0 : Int} (hn : 100 ≤ n) (h : P (some (I_ xs0)) n (W0 dy) g) : V miX11_reach (d + 1) 64 [(0, .ref 1), (1, I_ x1), (2, I_ x2), (3, I_ x3), (4, .ref r4), (5, .ref r5), (6, .ref r6)] [I_ xs0] n (W0 dy) g 0 0 P := by
  exact v_ret (v := some (I_ xs0)) 32 rfl (Nat.zero_le _) (Nat.zero_le _) trivial rfl h
set_option maxHeartbeats 8000000 in
set_option maxRecDepth 4000 in
theorem bX11_reach_79 {d n : Nat} {dy : Nat → Shp} {g : Hp} {P : Pst} {x1 : Int} {x2 : Int} {x3 : Int} {r4 : Nat} {r5 : Nat} {r6 : Nat} (hn : 100 ≤ n) (h : (((g 9 2) ≠ 0) → (i3 x3) ∧ ((x3 = 0) → Runs miX7_least d [.ref 9] n (W0 dy) (up2 g 1 3 0) (fun v n' S' g' => V miX11_reach (d + 1) 122 [(0, .ref 1), (1, I_ x1), (2, I_ x2), (3, I_ x3), (4, .ref r4), (5, .ref r5), (6, .ref r6)] (v.toList ++ []) n' S' g' 0 0 P)) ∧ ((x3 ≠ 0) → V miX11_reach (d + 1) 122 [(0, .ref 1), (1, I_ x1), (2, I_ x2), (3, I_ x3), (4, .ref r4), (5, .ref r5), (6, .ref r6)] [I_ (g 9 0)] n (W0 dy) (up2 g 1 3 0) 0 0 P)) ∧ (((g 9 2) = 0) → Runs miX11_none d [.ref 1, I_ 9] n (W0 dy) g (fun v n' S' g' => V miX11_reach (d + 1) 95 [(0, .ref 1), (1, I_ x1), (2, I_ x2), (3, I_ x3), (4, .ref r4), (5, .ref r5), (6, .ref r6)] (v.toList ++ []) n' S' g' 0 0 P))) : V miX11_reach (d + 1) 79 [(0, .ref 1), (1, I_ x1), (2, I_ x2), (3, I_ x3), (4, .ref r4), (5, .ref r5), (6, .ref r6)] [] n (W0 dy) g 0 0 P := by
  refine v_aload_n 39 0 rfl rfl rfl ?_
  refine v_gK 40 rfl fl11_45_10.r (al 1 rfl hn) (wk1 dy) (by decide) rfl (r := 9) (wc1_6 dy) ?_
  refine v_gI 41 rfl fl11_266_6.r (al 9 rfl hn) (wk9 dy) (by decide) rfl (wc9_2 dy) (x := g 9 2) rfl ?_
  refine v_rng fun w1 => ?_
  have p2 : i3 (g 9 2) := rI w1 (q := 2) (al 9 rfl hn) (wk9 dy) rfl rfl
  refine v_if_ne 42 rfl (tgt := 96) rfl p2 (fun q3 => ?_) (fun q3 => ?_)
  · have h := h.1 q3
    refine v_aload_n 47 0 rfl rfl rfl ?_
    refine v_iconst 48 rfl ?_
    refine v_putI 49 rfl fl11_25_10 (al 1 rfl hn) (wk1 dy) (by decide) rfl (wc1_3 dy) (by decide) ?_
    refine v_iload_n 50 3 rfl rfl rfl ?_
    have c4 := h.1
    have h := h.2
    refine v_if_eq 51 rfl (tgt := 115) rfl c4 (fun q5 => ?_) (fun q5 => ?_)
    · have h := h.1 q5
      refine v_aload_n 56 0 rfl rfl rfl ?_
      refine v_gK 57 rfl fl11_45_10.r (al 1 rfl hn) (wk1 dy) (by decide) rfl (r := 9) (wc1_6 dy) ?_
      refine v_callV (st := []) [] 58 rfl lv11_273_reach_6 (al 9 rfl hn) (wk9 dy) (by decide) rfl (Nat.le_refl _) (Nat.le_refl _) ?_
      exact h
    · have h := h.2 q5
      refine v_aload_n 52 0 rfl rfl rfl ?_
      refine v_gK 53 rfl fl11_45_10.r (al 1 rfl hn) (wk1 dy) (by decide) rfl (r := 9) (wc1_6 dy) ?_
      refine v_gI 54 rfl fl11_270_6.r (al 9 rfl hn) (wk9 dy) (by decide) rfl (wc9_0 dy) (x := g 9 0) rfl ?_
      refine v_rng fun w6 => ?_
      have p7 : i3 (g 9 0) := rI w6 (q := 0) (al 9 rfl hn) (wk9 dy) rfl rfl
      refine v_goto 55 rfl (tgt := 122) rfl ?_
      exact h
  · have h := h.2 q3
    refine v_aload_n 43 0 rfl rfl rfl ?_
    refine v_bipush 44 rfl (by decide) ?_
    refine v_callV (st := []) [I_ 9] 45 rfl lv11_135_reach_10 (al 1 rfl hn) (wk1 dy) (by decide) rfl (Nat.le_refl _) (Nat.le_refl _) ?_
    exact h
set_option maxHeartbeats 8000000 in
set_option maxRecDepth 4000 in
theorem bX11_reach_95 {d n : Nat} {dy : Nat → Shp} {g : Hp} {P : Pst} {x1 : Int} {x2 : Int} {x3 : Int} {r4 : Nat} {r5 : Nat} {r6 : Nat} {xs0 : Int} (hn : 100 ≤ n) (h : P (some (I_ xs0)) n (W0 dy) g) : V miX11_reach (d + 1) 95 [(0, .ref 1), (1, I_ x1), (2, I_ x2), (3, I_ x3), (4, .ref r4), (5, .ref r5), (6, .ref r6)] [I_ xs0] n (W0 dy) g 0 0 P := by
  exact v_ret (v := some (I_ xs0)) 46 rfl (Nat.zero_le _) (Nat.zero_le _) trivial rfl h
set_option maxHeartbeats 8000000 in
set_option maxRecDepth 4000 in
theorem bX11_reach_122 {d n : Nat} {dy : Nat → Shp} {g : Hp} {P : Pst} {x1 : Int} {x2 : Int} {x3 : Int} {r4 : Nat} {r5 : Nat} {r6 : Nat} {xs0 : Int} (hn : 100 ≤ n) (h : P (some (I_ xs0)) n (W0 dy) g) : V miX11_reach (d + 1) 122 [(0, .ref 1), (1, I_ x1), (2, I_ x2), (3, I_ x3), (4, .ref r4), (5, .ref r5), (6, .ref r6)] [I_ xs0] n (W0 dy) g 0 0 P := by
  exact v_ret (v := some (I_ xs0)) 59 rfl (Nat.zero_le _) (Nat.zero_le _) trivial rfl h
theorem wX11_reach {d n : Nat} {dy : Nat → Shp} {g : Hp} {P : Pst} {x1 : Int} {x2 : Int} {x3 : Int} (hn : 100 ≤ n) (h : Runs miX11_partAt d [.ref 1, I_ x1] n (W0 dy) g (fun v n' S' g' => V miX11_reach (d + 1) 5 [(0, .ref 1), (1, I_ x1), (2, I_ x2), (3, I_ x3)] (v.toList ++ []) n' S' g' 0 0 P)) : Runs miX11_reach (d + 1) [.ref 1, I_ x1, I_ x2, I_ x3] n (W0 dy) g P := Runs.of rfl rfl deX11_reach (Nat.le_of_ble_eq_true rfl) (bX11_reach_0 hn h)
theorem lv11_239_lowest_10 : LkV miX11_lowest miX11_topGiven 239 1 10 := ⟨⟨⟨tbG_in (List.mem_append_right _ (List.mem_of_getElem? (i := 714) (by decide +kernel))) rfl, tbG_in (List.mem_append_right _ (List.mem_of_getElem? (i := 1) (by decide +kernel))) rfl, tbG_in (List.mem_append_right _ (List.mem_of_getElem? (i := 711) (by decide +kernel))) rfl⟩, ⟨by decide +kernel, by decide +kernel, by decide +kernel⟩, by decide⟩, tbG_in (List.mem_append_right _ (List.mem_of_getElem? (i := 713) (by decide +kernel))) rfl, RX11, TX11, 13, rfl, tbG_in (List.mem_append_left _ (List.mem_of_getElem? (i := 16) (by decide +kernel))) rfl⟩
theorem lv11_227_lowest_1 : LkV miX11_lowest miX1_gather 227 1 1 := ⟨⟨⟨tbG_in (List.mem_append_right _ (List.mem_of_getElem? (i := 682) (by decide +kernel))) rfl, tbG_in (List.mem_append_right _ (List.mem_of_getElem? (i := 2) (by decide +kernel))) rfl, tbG_in (List.mem_append_right _ (List.mem_of_getElem? (i := 679) (by decide +kernel))) rfl⟩, ⟨by decide +kernel, by decide +kernel, by decide +kernel⟩, by decide⟩, tbG_in (List.mem_append_right _ (List.mem_of_getElem? (i := 680) (by decide +kernel))) rfl, RX1, TX1, 3, rfl, tbG_in (List.mem_append_right _ (List.mem_of_getElem? (i := 681) (by decide +kernel))) rfl⟩
theorem lv11_276_lowest_1 : LkV miX11_lowest miX1_lowestNumber 276 0 1 := ⟨⟨⟨tbG_in (List.mem_append_right _ (List.mem_of_getElem? (i := 792) (by decide +kernel))) rfl, tbG_in (List.mem_append_right _ (List.mem_of_getElem? (i := 2) (by decide +kernel))) rfl, tbG_in (List.mem_append_right _ (List.mem_of_getElem? (i := 789) (by decide +kernel))) rfl⟩, ⟨by decide +kernel, by decide +kernel, by decide +kernel⟩, by decide⟩, tbG_in (List.mem_append_right _ (List.mem_of_getElem? (i := 790) (by decide +kernel))) rfl, RX1, TX1, 3, rfl, tbG_in (List.mem_append_right _ (List.mem_of_getElem? (i := 791) (by decide +kernel))) rfl⟩
set_option maxHeartbeats 8000000 in
set_option maxRecDepth 4000 in
theorem bX11_lowest_0 {d n : Nat} {dy : Nat → Shp} {g : Hp} {P : Pst} {x1 : Int} (hn : 100 ≤ n) (h : Runs miX11_topGiven d [.ref 1, I_ x1] n (W0 dy) g (fun v n' S' g' => V miX11_lowest (d + 1) 5 [(0, .ref 1), (1, I_ x1)] (v.toList ++ []) n' S' g' 0 0 P)) : V miX11_lowest (d + 1) 0 [(0, .ref 1), (1, I_ x1)] [] n (W0 dy) g 0 0 P := by
  refine v_aload_n 0 0 rfl rfl rfl ?_
  refine v_iload_n 1 1 rfl rfl rfl ?_
  refine v_callV (st := []) [I_ x1] 2 rfl lv11_239_lowest_10 (al 1 rfl hn) (wk1 dy) (by decide) rfl (Nat.le_refl _) (Nat.le_refl _) ?_
  exact h
set_option maxHeartbeats 8000000 in
set_option maxRecDepth 4000 in
theorem bX11_lowest_5 {d n : Nat} {dy : Nat → Shp} {g : Hp} {P : Pst} {x1 : Int} {rs0 : Nat} (hn : 100 ≤ n) (h : ((0 < rs0) → Runs miX1_gather d [.ref 4, .ref rs0] n (W0 dy) g (fun v n' S' g' => V miX11_lowest (d + 1) 20 [(0, .ref 1), (1, I_ x1), (2, .ref rs0)] (v.toList ++ []) n' S' g' 0 0 P)) ∧ ((rs0 = 0) → P (some (I_ ((-1)))) n (W0 dy) g)) : V miX11_lowest (d + 1) 5 [(0, .ref 1), (1, I_ x1)] [.ref rs0] n (W0 dy) g 0 0 P := by
  refine v_astore_n 3 [1, 2, 0] rfl rfl (by decide) rfl ?_
  refine v_aload_n 4 2 rfl rfl rfl ?_
  refine v_ifnonnull 5 rfl (tgt := 12) rfl (fun q1 => ?_) (fun q1 => ?_)
  · have h := h.1 q1
    refine v_aload_n 8 0 rfl rfl rfl ?_
    refine v_gK 9 rfl fl11_31_10.r (al 1 rfl hn) (wk1 dy) (by decide) rfl (r := 4) (wc1_4 dy) ?_
    refine v_aload_n 10 2 rfl rfl rfl ?_
    refine v_callV (st := []) [.ref rs0] 11 rfl lv11_227_lowest_1 (al 4 rfl hn) (wk4 dy) (by decide) rfl (Nat.le_refl _) (Nat.le_refl _) ?_
    exact h
  · have h := h.2 q1
    refine v_iconst 6 rfl ?_
    exact v_ret (v := some (I_ ((-1)))) 7 rfl (Nat.zero_le _) (Nat.zero_le _) trivial rfl h
set_option maxHeartbeats 8000000 in
set_option maxRecDepth 4000 in
theorem bX11_lowest_20 {d n : Nat} {dy : Nat → Shp} {g : Hp} {P : Pst} {x1 : Int} {r2 : Nat} (hn : 100 ≤ n) (h : Runs miX1_lowestNumber d [.ref 4] n (W0 dy) g (fun v n' S' g' => V miX11_lowest (d + 1) 27 [(0, .ref 1), (1, I_ x1), (2, .ref r2)] (v.toList ++ []) n' S' g' 0 0 P)) : V miX11_lowest (d + 1) 20 [(0, .ref 1), (1, I_ x1), (2, .ref r2)] [] n (W0 dy) g 0 0 P := by
  refine v_aload_n 12 0 rfl rfl rfl ?_
  refine v_gK 13 rfl fl11_31_10.r (al 1 rfl hn) (wk1 dy) (by decide) rfl (r := 4) (wc1_4 dy) ?_
  refine v_callV (st := []) [] 14 rfl lv11_276_lowest_1 (al 4 rfl hn) (wk4 dy) (by decide) rfl (Nat.le_refl _) (Nat.le_refl _) ?_
  exact h
set_option maxHeartbeats 8000000 in
set_option maxRecDepth 4000 in
theorem bX11_lowest_27 {d n : Nat} {dy : Nat → Shp} {g : Hp} {P : Pst} {x1 : Int} {r2 : Nat} {xs0 : Int} (hn : 100 ≤ n) (h : P (some (I_ xs0)) n (W0 dy) g) : V miX11_lowest (d + 1) 27 [(0, .ref 1), (1, I_ x1), (2, .ref r2)] [I_ xs0] n (W0 dy) g 0 0 P := by
  exact v_ret (v := some (I_ xs0)) 15 rfl (Nat.zero_le _) (Nat.zero_le _) trivial rfl h
theorem wX11_lowest {d n : Nat} {dy : Nat → Shp} {g : Hp} {P : Pst} {x1 : Int} (hn : 100 ≤ n) (h : Runs miX11_topGiven d [.ref 1, I_ x1] n (W0 dy) g (fun v n' S' g' => V miX11_lowest (d + 1) 5 [(0, .ref 1), (1, I_ x1)] (v.toList ++ []) n' S' g' 0 0 P)) : Runs miX11_lowest (d + 1) [.ref 1, I_ x1] n (W0 dy) g P := Runs.of rfl rfl deX11_lowest (Nat.le_of_ble_eq_true rfl) (bX11_lowest_0 hn h)
theorem fl11_279_3 : FR RX11 279 3 1 := ⟨RX4, TX4, 14, "MobileMaker$Part", rfl, rfl, by decide, kf3, tbG_in (List.mem_append_right _ (List.mem_of_getElem? (i := 356) (by decide +kernel))) rfl, Or.inl rfl⟩
theorem fl11_279_5 : FR RX11 279 5 1 := ⟨RX6, TX6, 16, "MobileMaker$Part", rfl, rfl, by decide, kf5, tbG_in (List.mem_append_right _ (List.mem_of_getElem? (i := 356) (by decide +kernel))) rfl, Or.inl rfl⟩
theorem fl11_279_9 : FR RX11 279 9 1 := ⟨RX10, TX10, 10, "MobileMaker$Part", rfl, rfl, by decide, kf9, tbG_in (List.mem_append_right _ (List.mem_of_getElem? (i := 356) (by decide +kernel))) rfl, Or.inl rfl⟩
theorem fl11_49_10 : FL RX11 49 10 7 true (.object "MobileMaker$Span") := ⟨RX11, TX11, 13, "MobileMaker", rfl, rfl, by decide, kf10, tbG_in (List.mem_append_right _ (List.mem_of_getElem? (i := 223) (by decide +kernel))) rfl, Or.inl rfl, rfl, by decide +kernel, ⟨tyX11, tyX11_ok⟩, nmX11, fun _ => rfl⟩
theorem fl11_288_3 : FL RX11 288 3 7 false .int := ⟨RX4, TX4, 14, "MobileMaker$Part", rfl, rfl, by decide, kf3, tbG_in (List.mem_append_right _ (List.mem_of_getElem? (i := 395) (by decide +kernel))) rfl, Or.inl rfl, rfl, by decide +kernel, ⟨tyX4, tyX4_ok⟩, nmX4, fun h => by cases h⟩
theorem fl11_288_5 : FL RX11 288 5 7 false .int := ⟨RX6, TX6, 16, "MobileMaker$Part", rfl, rfl, by decide, kf5, tbG_in (List.mem_append_right _ (List.mem_of_getElem? (i := 395) (by decide +kernel))) rfl, Or.inl rfl, rfl, by decide +kernel, ⟨tyX6, tyX6_ok⟩, nmX6, fun h => by cases h⟩
theorem fl11_288_9 : FL RX11 288 9 7 false .int := ⟨RX10, TX10, 10, "MobileMaker$Part", rfl, rfl, by decide, kf9, tbG_in (List.mem_append_right _ (List.mem_of_getElem? (i := 395) (by decide +kernel))) rfl, Or.inl rfl, rfl, by decide +kernel, ⟨tyX10, tyX10_ok⟩, nmX10, fun h => by cases h⟩
theorem lv11_163_clash_10 : LkV miX11_clash miX11_partAt 163 1 10 := ⟨⟨⟨tbG_in (List.mem_append_right _ (List.mem_of_getElem? (i := 600) (by decide +kernel))) rfl, tbG_in (List.mem_append_right _ (List.mem_of_getElem? (i := 1) (by decide +kernel))) rfl, tbG_in (List.mem_append_right _ (List.mem_of_getElem? (i := 597) (by decide +kernel))) rfl⟩, ⟨by decide +kernel, by decide +kernel, by decide +kernel⟩, by decide⟩, tbG_in (List.mem_append_right _ (List.mem_of_getElem? (i := 599) (by decide +kernel))) rfl, RX11, TX11, 13, rfl, tbG_in (List.mem_append_left _ (List.mem_of_getElem? (i := 13) (by decide +kernel))) rfl⟩
theorem lv11_135_clash_10 : LkV miX11_clash miX11_none 135 1 10 := ⟨⟨⟨tbG_in (List.mem_append_right _ (List.mem_of_getElem? (i := 336) (by decide +kernel))) rfl, tbG_in (List.mem_append_right _ (List.mem_of_getElem? (i := 1) (by decide +kernel))) rfl, tbG_in (List.mem_append_right _ (List.mem_of_getElem? (i := 333) (by decide +kernel))) rfl⟩, ⟨by decide +kernel, by decide +kernel, by decide +kernel⟩, by decide⟩, tbG_in (List.mem_append_right _ (List.mem_of_getElem? (i := 335) (by decide +kernel))) rfl, RX11, TX11, 13, rfl, tbG_in (List.mem_append_left _ (List.mem_of_getElem? (i := 4) (by decide +kernel))) rfl⟩
theorem ls11_280_clash : LkS miX11_clash miX11_topOf 280 1 := ⟨⟨⟨tbG_in (List.mem_append_right _ (List.mem_of_getElem? (i := 609) (by decide +kernel))) rfl, tbG_in (List.mem_append_right _ (List.mem_of_getElem? (i := 1) (by decide +kernel))) rfl, tbG_in (List.mem_append_right _ (List.mem_of_getElem? (i := 607) (by decide +kernel))) rfl⟩, ⟨by decide +kernel, by decide +kernel, by decide +kernel⟩, by decide⟩, tbG_in (List.mem_append_right _ (List.mem_of_getElem? (i := 608) (by decide +kernel))) rfl⟩
theorem lv11_227_clash_1 : LkV miX11_clash miX1_gather 227 1 1 := ⟨⟨⟨tbG_in (List.mem_append_right _ (List.mem_of_getElem? (i := 682) (by decide +kernel))) rfl, tbG_in (List.mem_append_right _ (List.mem_of_getElem? (i := 2) (by decide +kernel))) rfl, tbG_in (List.mem_append_right _ (List.mem_of_getElem? (i := 679) (by decide +kernel))) rfl⟩, ⟨by decide +kernel, by decide +kernel, by decide +kernel⟩, by decide⟩, tbG_in (List.mem_append_right _ (List.mem_of_getElem? (i := 680) (by decide +kernel))) rfl, RX1, TX1, 3, rfl, tbG_in (List.mem_append_right _ (List.mem_of_getElem? (i := 681) (by decide +kernel))) rfl⟩
theorem ls11_284_clash : LkS miX11_clash miX11_lastAboveBoth 284 2 := ⟨⟨⟨tbG_in (List.mem_append_right _ (List.mem_of_getElem? (i := 799) (by decide +kernel))) rfl, tbG_in (List.mem_append_right _ (List.mem_of_getElem? (i := 1) (by decide +kernel))) rfl, tbG_in (List.mem_append_right _ (List.mem_of_getElem? (i := 797) (by decide +kernel))) rfl⟩, ⟨by decide +kernel, by decide +kernel, by decide +kernel⟩, by decide⟩, tbG_in (List.mem_append_right _ (List.mem_of_getElem? (i := 798) (by decide +kernel))) rfl⟩
theorem lv11_262_clash_6 : LkV miX11_clash miX7_measure 262 2 6 := ⟨⟨⟨tbG_in (List.mem_append_right _ (List.mem_of_getElem? (i := 771) (by decide +kernel))) rfl, tbG_in (List.mem_append_right _ (List.mem_of_getElem? (i := 4) (by decide +kernel))) rfl, tbG_in (List.mem_append_right _ (List.mem_of_getElem? (i := 768) (by decide +kernel))) rfl⟩, ⟨by decide +kernel, by decide +kernel, by decide +kernel⟩, by decide⟩, tbG_in (List.mem_append_right _ (List.mem_of_getElem? (i := 769) (by decide +kernel))) rfl, RX7, TX7, 3, rfl, tbG_in (List.mem_append_right _ (List.mem_of_getElem? (i := 770) (by decide +kernel))) rfl⟩
theorem lv11_291_clash_10 : LkV miX11_clash miX11_canTouch 291 1 10 := ⟨⟨⟨tbG_in (List.mem_append_right _ (List.mem_of_getElem? (i := 807) (by decide +kernel))) rfl, tbG_in (List.mem_append_right _ (List.mem_of_getElem? (i := 1) (by decide +kernel))) rfl, tbG_in (List.mem_append_right _ (List.mem_of_getElem? (i := 804) (by decide +kernel))) rfl⟩, ⟨by decide +kernel, by decide +kernel, by decide +kernel⟩, by decide⟩, tbG_in (List.mem_append_right _ (List.mem_of_getElem? (i := 806) (by decide +kernel))) rfl, RX11, TX11, 13, rfl, tbG_in (List.mem_append_left _ (List.mem_of_getElem? (i := 19) (by decide +kernel))) rfl⟩
set_option maxHeartbeats 8000000 in
set_option maxRecDepth 4000 in
theorem bX11_clash_0 {d n : Nat} {dy : Nat → Shp} {g : Hp} {P : Pst} {x1 : Int} {x2 : Int} (hn : 100 ≤ n) (h : Runs miX11_partAt d [.ref 1, I_ x1] n (W0 dy) g (fun v n' S' g' => V miX11_clash (d + 1) 5 [(0, .ref 1), (1, I_ x1), (2, I_ x2)] (v.toList ++ []) n' S' g' 0 0 P)) : V miX11_clash (d + 1) 0 [(0, .ref 1), (1, I_ x1), (2, I_ x2)] [] n (W0 dy) g 0 0 P := by
  refine v_aload_n 0 0 rfl rfl rfl ?_
  refine v_iload_n 1 1 rfl rfl rfl ?_
  refine v_callV (st := []) [I_ x1] 2 rfl lv11_163_clash_10 (al 1 rfl hn) (wk1 dy) (by decide) rfl (Nat.le_refl _) (Nat.le_refl _) ?_
  exact h
set_option maxHeartbeats 8000000 in
set_option maxRecDepth 4000 in
theorem bX11_clash_5 {d n : Nat} {dy : Nat → Shp} {g : Hp} {P : Pst} {x1 : Int} {x2 : Int} {rs0 : Nat} (hn : 100 ≤ n) (h : Runs miX11_partAt d [.ref 1, I_ x2] n (W0 dy) g (fun v n' S' g' => V miX11_clash (d + 1) 11 [(0, .ref 1), (1, I_ x1), (2, I_ x2), (3, .ref rs0)] (v.toList ++ []) n' S' g' 0 0 P)) : V miX11_clash (d + 1) 5 [(0, .ref 1), (1, I_ x1), (2, I_ x2)] [.ref rs0] n (W0 dy) g 0 0 P := by
  refine v_astore_n 3 [1, 2, 3, 0] rfl rfl (by decide) rfl ?_
  refine v_aload_n 4 0 rfl rfl rfl ?_
  refine v_iload_n 5 2 rfl rfl rfl ?_
  refine v_callV (st := []) [I_ x2] 6 rfl lv11_163_clash_10 (al 1 rfl hn) (wk1 dy) (by decide) rfl (Nat.le_refl _) (Nat.le_refl _) ?_
  exact h
set_option maxHeartbeats 8000000 in
set_option maxRecDepth 4000 in
theorem bX11_clash_11 {d n : Nat} {dy : Nat → Shp} {g : Hp} {P : Pst} {x1 : Int} {x2 : Int} {r3 : Nat} {rs0 : Nat} (hn : 100 ≤ n) (h : ((r3 = 0) → Runs miX11_none d [.ref 1, I_ 2] n (W0 dy) g (fun v n' S' g' => V miX11_clash (d + 1) 33 [(0, .ref 1), (1, I_ x1), (2, I_ x2), (3, .ref r3), (4, .ref rs0)] (v.toList ++ []) n' S' g' 0 0 P)) ∧ ((0 < r3) → ((rs0 = 0) → Runs miX11_none d [.ref 1, I_ 2] n (W0 dy) g (fun v n' S' g' => V miX11_clash (d + 1) 33 [(0, .ref 1), (1, I_ x1), (2, I_ x2), (3, .ref r3), (4, .ref rs0)] (v.toList ++ []) n' S' g' 0 0 P)) ∧ ((0 < rs0) → ((r3 ≠ rs0) → (Pt n (W0 dy) r3) ∧ (((g r3 1) ≠ 1) → Runs miX11_none d [.ref 1, I_ 5] n (W0 dy) g (fun v n' S' g' => V miX11_clash (d + 1) 56 [(0, .ref 1), (1, I_ x1), (2, I_ x2), (3, .ref r3), (4, .ref rs0)] (v.toList ++ []) n' S' g' 0 0 P)) ∧ (((g r3 1) = 1) → (Pt n (W0 dy) rs0) ∧ (((g rs0 1) = 1) → Runs miX11_topOf d [.ref r3] n (W0 dy) g (fun v n' S' g' => V miX11_clash (d + 1) 61 [(0, .ref 1), (1, I_ x1), (2, I_ x2), (3, .ref r3), (4, .ref rs0)] (v.toList ++ []) n' S' g' 0 0 P)) ∧ (((g rs0 1) ≠ 1) → Runs miX11_none d [.ref 1, I_ 5] n (W0 dy) g (fun v n' S' g' => V miX11_clash (d + 1) 56 [(0, .ref 1), (1, I_ x1), (2, I_ x2), (3, .ref r3), (4, .ref rs0)] (v.toList ++ []) n' S' g' 0 0 P)))) ∧ ((r3 = rs0) → Runs miX11_none d [.ref 1, I_ 2] n (W0 dy) g (fun v n' S' g' => V miX11_clash (d + 1) 33 [(0, .ref 1), (1, I_ x1), (2, I_ x2), (3, .ref r3), (4, .ref rs0)] (v.toList ++ []) n' S' g' 0 0 P))))) : V miX11_clash (d + 1) 11 [(0, .ref 1), (1, I_ x1), (2, I_ x2), (3, .ref r3)] [.ref rs0] n (W0 dy) g 0 0 P := by
  refine v_astore 7 [1, 2, 3, 4, 0] rfl (by decide) rfl ?_
  refine v_aload_n 8 3 rfl rfl rfl ?_
  refine v_ifnull 9 rfl (tgt := 28) rfl (fun q1 => ?_) (fun q1 => ?_)
  · have h := h.1 q1
    refine v_aload_n 15 0 rfl rfl rfl ?_
    refine v_iconst 16 rfl ?_
    refine v_callV (st := []) [I_ 2] 17 rfl lv11_135_clash_10 (al 1 rfl hn) (wk1 dy) (by decide) rfl (Nat.le_refl _) (Nat.le_refl _) ?_
    exact h
  · have h := h.2 q1
    refine v_aload 10 4 rfl rfl ?_
    refine v_ifnull 11 rfl (tgt := 28) rfl (fun q2 => ?_) (fun q2 => ?_)
    · have h := h.1 q2
      refine v_aload_n 15 0 rfl rfl rfl ?_
      refine v_iconst 16 rfl ?_
      refine v_callV (st := []) [I_ 2] 17 rfl lv11_135_clash_10 (al 1 rfl hn) (wk1 dy) (by decide) rfl (Nat.le_refl _) (Nat.le_refl _) ?_
      exact h
    · have h := h.2 q2
      refine v_aload_n 12 3 rfl rfl rfl ?_
      refine v_aload 13 4 rfl rfl ?_
      refine v_acmp_ne 14 rfl (tgt := 34) rfl (fun q3 => ?_) (fun q3 => ?_)
      · have h := h.1 q3
        refine v_aload_n 19 3 rfl rfl rfl ?_
        have c4 := h.1
        have h := h.2
        refine v_pI 20 rfl ⟨fl11_279_3, fl11_279_5, fl11_279_9⟩ c4 ⟨rfl, rfl, rfl⟩ (x := g r3 1) rfl ?_
        refine v_rng fun w5 => ?_
        have p6 : i3 (g r3 1) := rPI w5 (q := 1) c4 rfl rfl rfl rfl
        refine v_iconst 21 rfl ?_
        refine v_icmp_ne 22 rfl (tgt := 51) rfl p6 (by decide) (fun q7 => ?_) (fun q7 => ?_)
        · have h := h.1 q7
          refine v_aload_n 27 0 rfl rfl rfl ?_
          refine v_iconst 28 rfl ?_
          refine v_callV (st := []) [I_ 5] 29 rfl lv11_135_clash_10 (al 1 rfl hn) (wk1 dy) (by decide) rfl (Nat.le_refl _) (Nat.le_refl _) ?_
          exact h
        · have h := h.2 q7
          refine v_aload 23 4 rfl rfl ?_
          have c8 := h.1
          have h := h.2
          refine v_pI 24 rfl ⟨fl11_279_3, fl11_279_5, fl11_279_9⟩ c8 ⟨rfl, rfl, rfl⟩ (x := g rs0 1) rfl ?_
          refine v_rng fun w9 => ?_
          have p10 : i3 (g rs0 1) := rPI w9 (q := 1) c8 rfl rfl rfl rfl
          refine v_iconst 25 rfl ?_
          refine v_icmp_eq 26 rfl (tgt := 57) rfl p10 (by decide) (fun q11 => ?_) (fun q11 => ?_)
          · have h := h.1 q11
            refine v_aload_n 31 3 rfl rfl rfl ?_
            refine v_callS (st := []) [.ref r3] 32 rfl ls11_280_clash rfl (Nat.lt_of_lt_of_le (by decide) hn) (Nat.le_refl _) (Nat.le_refl _) ?_
            exact h
          · have h := h.2 q11
            refine v_aload_n 27 0 rfl rfl rfl ?_
            refine v_iconst 28 rfl ?_
            refine v_callV (st := []) [I_ 5] 29 rfl lv11_135_clash_10 (al 1 rfl hn) (wk1 dy) (by decide) rfl (Nat.le_refl _) (Nat.le_refl _) ?_
            exact h
      · have h := h.2 q3
        refine v_aload_n 15 0 rfl rfl rfl ?_
        refine v_iconst 16 rfl ?_
        refine v_callV (st := []) [I_ 2] 17 rfl lv11_135_clash_10 (al 1 rfl hn) (wk1 dy) (by decide) rfl (Nat.le_refl _) (Nat.le_refl _) ?_
        exact h
set_option maxHeartbeats 8000000 in
set_option maxRecDepth 4000 in
theorem bX11_clash_33 {d n : Nat} {dy : Nat → Shp} {g : Hp} {P : Pst} {x1 : Int} {x2 : Int} {r3 : Nat} {r4 : Nat} {xs0 : Int} (hn : 100 ≤ n) (h : P (some (I_ xs0)) n (W0 dy) g) : V miX11_clash (d + 1) 33 [(0, .ref 1), (1, I_ x1), (2, I_ x2), (3, .ref r3), (4, .ref r4)] [I_ xs0] n (W0 dy) g 0 0 P := by
  exact v_ret (v := some (I_ xs0)) 18 rfl (Nat.zero_le _) (Nat.zero_le _) trivial rfl h
set_option maxHeartbeats 8000000 in
set_option maxRecDepth 4000 in
theorem bX11_clash_56 {d n : Nat} {dy : Nat → Shp} {g : Hp} {P : Pst} {x1 : Int} {x2 : Int} {r3 : Nat} {r4 : Nat} {xs0 : Int} (hn : 100 ≤ n) (h : P (some (I_ xs0)) n (W0 dy) g) : V miX11_clash (d + 1) 56 [(0, .ref 1), (1, I_ x1), (2, I_ x2), (3, .ref r3), (4, .ref r4)] [I_ xs0] n (W0 dy) g 0 0 P := by
  exact v_ret (v := some (I_ xs0)) 30 rfl (Nat.zero_le _) (Nat.zero_le _) trivial rfl h
set_option maxHeartbeats 8000000 in
set_option maxRecDepth 4000 in
theorem bX11_clash_61 {d n : Nat} {dy : Nat → Shp} {g : Hp} {P : Pst} {x1 : Int} {x2 : Int} {r3 : Nat} {r4 : Nat} {rs0 : Nat} (hn : 100 ≤ n) (h : Runs miX11_topOf d [.ref r4] n (W0 dy) g (fun v n' S' g' => V miX11_clash (d + 1) 70 [(0, .ref 1), (1, I_ x1), (2, I_ x2), (3, .ref r3), (4, .ref r4), (5, .ref rs0)] (v.toList ++ [.ref rs0]) n' S' g' 0 0 P)) : V miX11_clash (d + 1) 61 [(0, .ref 1), (1, I_ x1), (2, I_ x2), (3, .ref r3), (4, .ref r4)] [.ref rs0] n (W0 dy) g 0 0 P := by
  refine v_astore 33 [1, 2, 3, 4, 5, 0] rfl (by decide) rfl ?_
  refine v_aload 34 5 rfl rfl ?_
  refine v_aload 35 4 rfl rfl ?_
  refine v_callS (st := [.ref rs0]) [.ref r4] 36 rfl ls11_280_clash rfl (Nat.lt_of_lt_of_le (by decide) hn) (Nat.le_refl _) (Nat.le_refl _) ?_
  exact h
set_option maxHeartbeats 8000000 in
set_option maxRecDepth 4000 in
theorem bX11_clash_70 {d n : Nat} {dy : Nat → Shp} {g : Hp} {P : Pst} {x1 : Int} {x2 : Int} {r3 : Nat} {r4 : Nat} {r5 : Nat} {rs0 : Nat} {rs1 : Nat} (hn : 100 ≤ n) (h : ((rs0 = rs1) → Runs miX1_gather d [.ref 4, .ref r5] n (W0 dy) g (fun v n' S' g' => V miX11_clash (d + 1) 89 [(0, .ref 1), (1, I_ x1), (2, I_ x2), (3, .ref r3), (4, .ref r4), (5, .ref r5)] (v.toList ++ []) n' S' g' 0 0 P)) ∧ ((rs0 ≠ rs1) → Runs miX11_none d [.ref 1, I_ 8] n (W0 dy) g (fun v n' S' g' => V miX11_clash (d + 1) 79 [(0, .ref 1), (1, I_ x1), (2, I_ x2), (3, .ref r3), (4, .ref r4), (5, .ref r5)] (v.toList ++ []) n' S' g' 0 0 P))) : V miX11_clash (d + 1) 70 [(0, .ref 1), (1, I_ x1), (2, I_ x2), (3, .ref r3), (4, .ref r4), (5, .ref r5)] [.ref rs1, .ref rs0] n (W0 dy) g 0 0 P := by
  refine v_acmp_eq 37 rfl (tgt := 80) rfl (fun q1 => ?_) (fun q1 => ?_)
  · have h := h.1 q1
    refine v_aload_n 42 0 rfl rfl rfl ?_
    refine v_gK 43 rfl fl11_31_10.r (al 1 rfl hn) (wk1 dy) (by decide) rfl (r := 4) (wc1_4 dy) ?_
    refine v_aload 44 5 rfl rfl ?_
    refine v_callV (st := []) [.ref r5] 45 rfl lv11_227_clash_1 (al 4 rfl hn) (wk4 dy) (by decide) rfl (Nat.le_refl _) (Nat.le_refl _) ?_
    exact h
  · have h := h.2 q1
    refine v_aload_n 38 0 rfl rfl rfl ?_
    refine v_bipush 39 rfl (by decide) ?_
    refine v_callV (st := []) [I_ 8] 40 rfl lv11_135_clash_10 (al 1 rfl hn) (wk1 dy) (by decide) rfl (Nat.le_refl _) (Nat.le_refl _) ?_
    exact h
set_option maxHeartbeats 8000000 in
set_option maxRecDepth 4000 in
theorem bX11_clash_79 {d n : Nat} {dy : Nat → Shp} {g : Hp} {P : Pst} {x1 : Int} {x2 : Int} {r3 : Nat} {r4 : Nat} {r5 : Nat} {xs0 : Int} (hn : 100 ≤ n) (h : P (some (I_ xs0)) n (W0 dy) g) : V miX11_clash (d + 1) 79 [(0, .ref 1), (1, I_ x1), (2, I_ x2), (3, .ref r3), (4, .ref r4), (5, .ref r5)] [I_ xs0] n (W0 dy) g 0 0 P := by
  exact v_ret (v := some (I_ xs0)) 41 rfl (Nat.zero_le _) (Nat.zero_le _) trivial rfl h
set_option maxHeartbeats 8000000 in
set_option maxRecDepth 4000 in
theorem bX11_clash_89 {d n : Nat} {dy : Nat → Shp} {g : Hp} {P : Pst} {x1 : Int} {x2 : Int} {r3 : Nat} {r4 : Nat} {r5 : Nat} (hn : 100 ≤ n) (h : Runs miX11_lastAboveBoth d [.ref r3, .ref r4] n (W0 dy) g (fun v n' S' g' => V miX11_clash (d + 1) 95 [(0, .ref 1), (1, I_ x1), (2, I_ x2), (3, .ref r3), (4, .ref r4), (5, .ref r5)] (v.toList ++ []) n' S' g' 0 0 P)) : V miX11_clash (d + 1) 89 [(0, .ref 1), (1, I_ x1), (2, I_ x2), (3, .ref r3), (4, .ref r4), (5, .ref r5)] [] n (W0 dy) g 0 0 P := by
  refine v_aload_n 46 3 rfl rfl rfl ?_
  refine v_aload 47 4 rfl rfl ?_
  refine v_callS (st := []) [.ref r3, .ref r4] 48 rfl ls11_284_clash rfl (Nat.lt_of_lt_of_le (by decide) hn) (Nat.le_refl _) (Nat.le_refl _) ?_
  exact h
set_option maxHeartbeats 8000000 in
set_option maxRecDepth 4000 in
theorem bX11_clash_95 {d n : Nat} {dy : Nat → Shp} {g : Hp} {P : Pst} {x1 : Int} {x2 : Int} {r3 : Nat} {r4 : Nat} {r5 : Nat} {rs0 : Nat} (hn : 100 ≤ n) (h : Runs miX7_measure d [.ref 9, .ref r3, .ref rs0] n (W0 dy) g (fun v n' S' g' => V miX11_clash (d + 1) 107 [(0, .ref 1), (1, I_ x1), (2, I_ x2), (3, .ref r3), (4, .ref r4), (5, .ref r5), (6, .ref rs0)] (v.toList ++ []) n' S' g' 0 0 P)) : V miX11_clash (d + 1) 95 [(0, .ref 1), (1, I_ x1), (2, I_ x2), (3, .ref r3), (4, .ref r4), (5, .ref r5)] [.ref rs0] n (W0 dy) g 0 0 P := by
  refine v_astore 49 [1, 2, 3, 4, 5, 6, 0] rfl (by decide) rfl ?_
  refine v_aload_n 50 0 rfl rfl rfl ?_
  refine v_gK 51 rfl fl11_45_10.r (al 1 rfl hn) (wk1 dy) (by decide) rfl (r := 9) (wc1_6 dy) ?_
  refine v_aload_n 52 3 rfl rfl rfl ?_
  refine v_aload 53 6 rfl rfl ?_
  refine v_callV (st := []) [.ref r3, .ref rs0] 54 rfl lv11_262_clash_6 (al 9 rfl hn) (wk9 dy) (by decide) rfl (Nat.le_refl _) (Nat.le_refl _) ?_
  exact h
set_option maxHeartbeats 8000000 in
set_option maxRecDepth 4000 in
theorem bX11_clash_107 {d n : Nat} {dy : Nat → Shp} {g : Hp} {P : Pst} {x1 : Int} {x2 : Int} {r3 : Nat} {r4 : Nat} {r5 : Nat} {r6 : Nat} (hn : 100 ≤ n) (h : Runs miX7_measure d [.ref 10, .ref r4, .ref r6] n (W0 dy) g (fun v n' S' g' => V miX11_clash (d + 1) 118 [(0, .ref 1), (1, I_ x1), (2, I_ x2), (3, .ref r3), (4, .ref r4), (5, .ref r5), (6, .ref r6)] (v.toList ++ []) n' S' g' 0 0 P)) : V miX11_clash (d + 1) 107 [(0, .ref 1), (1, I_ x1), (2, I_ x2), (3, .ref r3), (4, .ref r4), (5, .ref r5), (6, .ref r6)] [] n (W0 dy) g 0 0 P := by
  refine v_aload_n 55 0 rfl rfl rfl ?_
  refine v_gK 56 rfl fl11_49_10.r (al 1 rfl hn) (wk1 dy) (by decide) rfl (r := 10) (wc1_7 dy) ?_
  refine v_aload 57 4 rfl rfl ?_
  refine v_aload 58 6 rfl rfl ?_
  refine v_callV (st := []) [.ref r4, .ref r6] 59 rfl lv11_262_clash_6 (al 10 rfl hn) (wk10 dy) (by decide) rfl (Nat.le_refl _) (Nat.le_refl _) ?_
  exact h
set_option maxHeartbeats 8000000 in
set_option maxRecDepth 4000 in
theorem bX11_clash_118 {d n : Nat} {dy : Nat → Shp} {g : Hp} {P : Pst} {x1 : Int} {x2 : Int} {r3 : Nat} {r4 : Nat} {r5 : Nat} {r6 : Nat} (hn : 100 ≤ n) (h : (((g 9 2) = 0) → Runs miX11_none d [.ref 1, I_ 9] n (W0 dy) g (fun v n' S' g' => V miX11_clash (d + 1) 144 [(0, .ref 1), (1, I_ x1), (2, I_ x2), (3, .ref r3), (4, .ref r4), (5, .ref r5), (6, .ref r6)] (v.toList ++ []) n' S' g' 0 0 P)) ∧ (((g 9 2) ≠ 0) → (((g 10 2) ≠ 0) → (Pt n (W0 dy) r3) ∧ (Pt n (W0 dy) r4) ∧ (((g r3 7) ≠ (g r4 7)) → P (some (I_ 0)) n (W0 dy) (up2 g 1 3 0)) ∧ (((g r3 7) = (g r4 7)) → Runs miX11_canTouch d [.ref 1, .ref r6] n (W0 dy) (up2 g 1 3 0) (fun v n' S' g' => V miX11_clash (d + 1) 168 [(0, .ref 1), (1, I_ x1), (2, I_ x2), (3, .ref r3), (4, .ref r4), (5, .ref r5), (6, .ref r6)] (v.toList ++ []) n' S' g' 0 0 P))) ∧ (((g 10 2) = 0) → Runs miX11_none d [.ref 1, I_ 9] n (W0 dy) g (fun v n' S' g' => V miX11_clash (d + 1) 144 [(0, .ref 1), (1, I_ x1), (2, I_ x2), (3, .ref r3), (4, .ref r4), (5, .ref r5), (6, .ref r6)] (v.toList ++ []) n' S' g' 0 0 P)))) : V miX11_clash (d + 1) 118 [(0, .ref 1), (1, I_ x1), (2, I_ x2), (3, .ref r3), (4, .ref r4), (5, .ref r5), (6, .ref r6)] [] n (W0 dy) g 0 0 P := by
  refine v_aload_n 60 0 rfl rfl rfl ?_
  refine v_gK 61 rfl fl11_45_10.r (al 1 rfl hn) (wk1 dy) (by decide) rfl (r := 9) (wc1_6 dy) ?_
  refine v_gI 62 rfl fl11_266_6.r (al 9 rfl hn) (wk9 dy) (by decide) rfl (wc9_2 dy) (x := g 9 2) rfl ?_
  refine v_rng fun w1 => ?_
  have p2 : i3 (g 9 2) := rI w1 (q := 2) (al 9 rfl hn) (wk9 dy) rfl rfl
  refine v_if_eq 63 rfl (tgt := 138) rfl p2 (fun q3 => ?_) (fun q3 => ?_)
  · have h := h.1 q3
    refine v_aload_n 68 0 rfl rfl rfl ?_
    refine v_bipush 69 rfl (by decide) ?_
    refine v_callV (st := []) [I_ 9] 70 rfl lv11_135_clash_10 (al 1 rfl hn) (wk1 dy) (by decide) rfl (Nat.le_refl _) (Nat.le_refl _) ?_
    exact h
  · have h := h.2 q3
    refine v_aload_n 64 0 rfl rfl rfl ?_
    refine v_gK 65 rfl fl11_49_10.r (al 1 rfl hn) (wk1 dy) (by decide) rfl (r := 10) (wc1_7 dy) ?_
    refine v_gI 66 rfl fl11_266_6.r (al 10 rfl hn) (wk10 dy) (by decide) rfl (wc10_2 dy) (x := g 10 2) rfl ?_
    refine v_rng fun w4 => ?_
    have p5 : i3 (g 10 2) := rI w4 (q := 2) (al 10 rfl hn) (wk10 dy) rfl rfl
    refine v_if_ne 67 rfl (tgt := 145) rfl p5 (fun q6 => ?_) (fun q6 => ?_)
    · have h := h.1 q6
      refine v_aload_n 72 0 rfl rfl rfl ?_
      refine v_iconst 73 rfl ?_
      refine v_putI 74 rfl fl11_25_10 (al 1 rfl hn) (wk1 dy) (by decide) rfl (wc1_3 dy) (by decide) ?_
      refine v_aload_n 75 3 rfl rfl rfl ?_
      have c7 := h.1
      have h := h.2
      refine v_pI 76 rfl ⟨fl11_288_3.r, fl11_288_5.r, fl11_288_9.r⟩ c7 ⟨rfl, rfl, rfl⟩ (x := g r3 7) (up2_q (by decide)) ?_
      refine v_rng fun w8 => ?_
      have p9 : i3 (g r3 7) := rPI w8 (q := 7) c7 rfl rfl rfl (up2_q (by decide))
      refine v_aload 77 4 rfl rfl ?_
      have c10 := h.1
      have h := h.2
      refine v_pI 78 rfl ⟨fl11_288_3.r, fl11_288_5.r, fl11_288_9.r⟩ c10 ⟨rfl, rfl, rfl⟩ (x := g r4 7) (up2_q (by decide)) ?_
      refine v_rng fun w11 => ?_
      have p12 : i3 (g r4 7) := rPI w11 (q := 7) c10 rfl rfl rfl (up2_q (by decide))
      refine v_icmp_ne 79 rfl (tgt := 175) rfl p9 p12 (fun q13 => ?_) (fun q13 => ?_)
      · have h := h.1 q13
        refine v_iconst 86 rfl ?_
        exact v_ret (v := some (I_ 0)) 87 rfl (Nat.zero_le _) (Nat.zero_le _) trivial rfl h
      · have h := h.2 q13
        refine v_aload_n 80 0 rfl rfl rfl ?_
        refine v_aload 81 6 rfl rfl ?_
        refine v_callV (st := []) [.ref r6] 82 rfl lv11_291_clash_10 (al 1 rfl hn) (wk1 dy) (by decide) rfl (Nat.le_refl _) (Nat.le_refl _) ?_
        exact h
    · have h := h.2 q6
      refine v_aload_n 68 0 rfl rfl rfl ?_
      refine v_bipush 69 rfl (by decide) ?_
      refine v_callV (st := []) [I_ 9] 70 rfl lv11_135_clash_10 (al 1 rfl hn) (wk1 dy) (by decide) rfl (Nat.le_refl _) (Nat.le_refl _) ?_
      exact h
set_option maxHeartbeats 8000000 in
set_option maxRecDepth 4000 in
theorem bX11_clash_144 {d n : Nat} {dy : Nat → Shp} {g : Hp} {P : Pst} {x1 : Int} {x2 : Int} {r3 : Nat} {r4 : Nat} {r5 : Nat} {r6 : Nat} {xs0 : Int} (hn : 100 ≤ n) (h : P (some (I_ xs0)) n (W0 dy) g) : V miX11_clash (d + 1) 144 [(0, .ref 1), (1, I_ x1), (2, I_ x2), (3, .ref r3), (4, .ref r4), (5, .ref r5), (6, .ref r6)] [I_ xs0] n (W0 dy) g 0 0 P := by
  exact v_ret (v := some (I_ xs0)) 71 rfl (Nat.zero_le _) (Nat.zero_le _) trivial rfl h
set_option maxHeartbeats 8000000 in
set_option maxRecDepth 4000 in
theorem bX11_clash_168 {d n : Nat} {dy : Nat → Shp} {g : Hp} {P : Pst} {x1 : Int} {x2 : Int} {r3 : Nat} {r4 : Nat} {r5 : Nat} {r6 : Nat} {xs0 : Int} (hn : 100 ≤ n) (h : (i3 xs0) ∧ ((xs0 = 0) → P (some (I_ 0)) n (W0 dy) g) ∧ ((xs0 ≠ 0) → P (some (I_ 1)) n (W0 dy) g)) : V miX11_clash (d + 1) 168 [(0, .ref 1), (1, I_ x1), (2, I_ x2), (3, .ref r3), (4, .ref r4), (5, .ref r5), (6, .ref r6)] [I_ xs0] n (W0 dy) g 0 0 P := by
  have c1 := h.1
  have h := h.2
  refine v_if_eq 83 rfl (tgt := 175) rfl c1 (fun q2 => ?_) (fun q2 => ?_)
  · have h := h.1 q2
    refine v_iconst 86 rfl ?_
    exact v_ret (v := some (I_ 0)) 87 rfl (Nat.zero_le _) (Nat.zero_le _) trivial rfl h
  · have h := h.2 q2
    refine v_iconst 84 rfl ?_
    refine v_goto 85 rfl (tgt := 176) rfl ?_
    exact v_ret (v := some (I_ 1)) 87 rfl (Nat.zero_le _) (Nat.zero_le _) trivial rfl h
theorem wX11_clash {d n : Nat} {dy : Nat → Shp} {g : Hp} {P : Pst} {x1 : Int} {x2 : Int} (hn : 100 ≤ n) (h : Runs miX11_partAt d [.ref 1, I_ x1] n (W0 dy) g (fun v n' S' g' => V miX11_clash (d + 1) 5 [(0, .ref 1), (1, I_ x1), (2, I_ x2)] (v.toList ++ []) n' S' g' 0 0 P)) : Runs miX11_clash (d + 1) [.ref 1, I_ x1, I_ x2] n (W0 dy) g P := Runs.of rfl rfl deX11_clash (Nat.le_of_ble_eq_true rfl) (bX11_clash_0 hn h)
