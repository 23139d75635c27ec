/-! POUR: the walk of the class, printed by gen/pour.py -/
theorem fl11_114_8 : FL RX11 114 8 0 false .int := ⟨RX9, TX9, 3, "MobileMaker$Tray", rfl, rfl, by decide, kf8, tbG_in (List.mem_append_right _ (List.mem_of_getElem? (i := 203) (by decide +kernel))) rfl, Or.inl rfl, rfl, by decide +kernel, ⟨tyX9, tyX9_ok⟩, nmX9, fun h => by cases h⟩
theorem fl11_121_8 : FR RX11 121 8 2 := ⟨RX9, TX9, 3, "MobileMaker$Tray", rfl, rfl, by decide, kf8, tbG_in (List.mem_append_right _ (List.mem_of_getElem? (i := 208) (by decide +kernel))) rfl, Or.inl rfl⟩
theorem lv11_81_pour_10 : LkV miX11_pour miX11_trayAt 81 1 10 := ⟨⟨⟨tbG_in (List.mem_append_right _ (List.mem_of_getElem? (i := 267) (by decide +kernel))) rfl, tbG_in (List.mem_append_right _ (List.mem_of_getElem? (i := 1) (by decide +kernel))) rfl, tbG_in (List.mem_append_right _ (List.mem_of_getElem? (i := 264) (by decide +kernel))) rfl⟩, ⟨by decide +kernel, by decide +kernel, by decide +kernel⟩, by decide⟩, tbG_in (List.mem_append_right _ (List.mem_of_getElem? (i := 266) (by decide +kernel))) rfl, RX11, TX11, 13, rfl, tbG_in (List.mem_append_left _ (List.mem_of_getElem? (i := 0) (by decide +kernel))) rfl⟩
theorem lv11_85_pour_10 : LkV miX11_pour miX11_refuses 85 1 10 := ⟨⟨⟨tbG_in (List.mem_append_right _ (List.mem_of_getElem? (i := 271) (by decide +kernel))) rfl, tbG_in (List.mem_append_right _ (List.mem_of_getElem? (i := 1) (by decide +kernel))) rfl, tbG_in (List.mem_append_right _ (List.mem_of_getElem? (i := 268) (by decide +kernel))) rfl⟩, ⟨by decide +kernel, by decide +kernel, by decide +kernel⟩, by decide⟩, tbG_in (List.mem_append_right _ (List.mem_of_getElem? (i := 270) (by decide +kernel))) rfl, RX11, TX11, 13, rfl, tbG_in (List.mem_append_left _ (List.mem_of_getElem? (i := 1) (by decide +kernel))) rfl⟩
theorem lv11_111_pour_8 : LkV miX11_pour miX9_isMissing 111 0 8 := ⟨⟨⟨tbG_in (List.mem_append_right _ (List.mem_of_getElem? (i := 293) (by decide +kernel))) rfl, tbG_in (List.mem_append_right _ (List.mem_of_getElem? (i := 8) (by decide +kernel))) rfl, tbG_in (List.mem_append_right _ (List.mem_of_getElem? (i := 290) (by decide +kernel))) rfl⟩, ⟨by decide +kernel, by decide +kernel, by decide +kernel⟩, by decide⟩, tbG_in (List.mem_append_right _ (List.mem_of_getElem? (i := 291) (by decide +kernel))) rfl, RX9, TX9, 3, rfl, tbG_in (List.mem_append_right _ (List.mem_of_getElem? (i := 292) (by decide +kernel))) rfl⟩
theorem lv11_117_pour_8 : LkV miX11_pour miX9_hasFrom 117 2 8 := ⟨⟨⟨tbG_in (List.mem_append_right _ (List.mem_of_getElem? (i := 320) (by decide +kernel))) rfl, tbG_in (List.mem_append_right _ (List.mem_of_getElem? (i := 8) (by decide +kernel))) rfl, tbG_in (List.mem_append_right _ (List.mem_of_getElem? (i := 317) (by decide +kernel))) rfl⟩, ⟨by decide +kernel, by decide +kernel, by decide +kernel⟩, by decide⟩, tbG_in (List.mem_append_right _ (List.mem_of_getElem? (i := 318) (by decide +kernel))) rfl, RX9, TX9, 3, rfl, tbG_in (List.mem_append_right _ (List.mem_of_getElem? (i := 319) (by decide +kernel))) rfl⟩
theorem lac_125 : Cond.methodLink RX11 125 arraycopyName ∈ tbG ∧ Cond.native arraycopyName ∈ tbG ∧ Cond.static arraycopyName ∈ tbG ∧ Cond.initialized "java/lang/System" ∈ tbG := ⟨tbG_in (List.mem_append_right _ (List.mem_of_getElem? (i := 321) (by decide +kernel))) rfl, tbG_in (List.mem_append_right _ (List.mem_of_getElem? (i := 323) (by decide +kernel))) rfl, tbG_in (List.mem_append_right _ (List.mem_of_getElem? (i := 322) (by decide +kernel))) rfl, tbG_in (List.mem_append_right _ (List.mem_of_getElem? (i := 11) (by decide +kernel))) rfl⟩
theorem lv11_93_pour_10 : LkV miX11_pour miX11_allows 93 0 10 := ⟨⟨⟨tbG_in (List.mem_append_right _ (List.mem_of_getElem? (i := 282) (by decide +kernel))) rfl, tbG_in (List.mem_append_right _ (List.mem_of_getElem? (i := 1) (by decide +kernel))) rfl, tbG_in (List.mem_append_right _ (List.mem_of_getElem? (i := 279) (by decide +kernel))) rfl⟩, ⟨by decide +kernel, by decide +kernel, by decide +kernel⟩, by decide⟩, tbG_in (List.mem_append_right _ (List.mem_of_getElem? (i := 281) (by decide +kernel))) rfl, RX11, TX11, 13, rfl, tbG_in (List.mem_append_left _ (List.mem_of_getElem? (i := 2) (by decide +kernel))) rfl⟩
set_option maxHeartbeats 8000000 in
set_option maxRecDepth 4000 in
theorem bX11_pour_0 {d n : Nat} {dy : Nat → Shp} {g : Hp} {P : Pst} {x1 : Int} {x2 : Int} {x3 : Int} {x4 : Int} {x5 : Int} (hn : 100 ≤ n) (h : Runs miX11_trayAt d [.ref 1, I_ x1] n (W0 dy) g (fun v n' S' g' => V miX11_pour (d + 1) 5 [(0, .ref 1), (1, I_ x1), (2, I_ x2), (3, I_ x3), (4, I_ x4), (5, I_ x5)] (v.toList ++ []) n' S' g' 0 0 P)) : V miX11_pour (d + 1) 0 [(0, .ref 1), (1, I_ x1), (2, I_ x2), (3, I_ x3), (4, I_ x4), (5, I_ x5)] [] n (W0 dy) g 0 0 P := by
  refine v_aload_n 0 0 rfl rfl rfl ?_
  refine v_iload_n 1 1 rfl rfl rfl ?_
  refine v_callV (st := []) [I_ x1] 2 rfl lv11_81_pour_10 (al 1 rfl hn) (wk1 dy) (by decide) rfl (Nat.le_refl _) (Nat.le_refl _) ?_
  exact h
set_option maxHeartbeats 8000000 in
set_option maxRecDepth 4000 in
theorem bX11_pour_5 {d n : Nat} {dy : Nat → Shp} {g : Hp} {P : Pst} {x1 : Int} {x2 : Int} {x3 : Int} {x4 : Int} {x5 : Int} {rs0 : Nat} (hn : 100 ≤ n) (h : Runs miX11_trayAt d [.ref 1, I_ x3] n (W0 dy) g (fun v n' S' g' => V miX11_pour (d + 1) 12 [(0, .ref 1), (1, I_ x1), (2, I_ x2), (3, I_ x3), (4, I_ x4), (5, I_ x5), (6, .ref rs0)] (v.toList ++ []) n' S' g' 0 0 P)) : V miX11_pour (d + 1) 5 [(0, .ref 1), (1, I_ x1), (2, I_ x2), (3, I_ x3), (4, I_ x4), (5, I_ x5)] [.ref rs0] n (W0 dy) g 0 0 P := by
  refine v_astore 3 [1, 2, 3, 4, 5, 6, 0] rfl (by decide) rfl ?_
  refine v_aload_n 4 0 rfl rfl rfl ?_
  refine v_iload_n 5 3 rfl rfl rfl ?_
  refine v_callV (st := []) [I_ x3] 6 rfl lv11_81_pour_10 (al 1 rfl hn) (wk1 dy) (by decide) rfl (Nat.le_refl _) (Nat.le_refl _) ?_
  exact h
set_option maxHeartbeats 8000000 in
set_option maxRecDepth 4000 in
theorem bX11_pour_12 {d n : Nat} {dy : Nat → Shp} {g : Hp} {P : Pst} {x1 : Int} {x2 : Int} {x3 : Int} {x4 : Int} {x5 : Int} {r6 : Nat} {rs0 : Nat} (hn : 100 ≤ n) (h : ((r6 = 0) → Runs miX11_refuses d [.ref 1, I_ 1] n (W0 dy) g (fun v n' S' g' => V miX11_pour (d + 1) 29 [(0, .ref 1), (1, I_ x1), (2, I_ x2), (3, I_ x3), (4, I_ x4), (5, I_ x5), (6, .ref r6), (7, .ref rs0)] (v.toList ++ []) n' S' g' 0 0 P)) ∧ ((0 < r6) → ((0 < rs0) → (Tr n (W0 dy) r6) ∧ Runs miX9_isMissing d [.ref r6] n (W0 dy) g (fun v n' S' g' => V miX11_pour (d + 1) 35 [(0, .ref 1), (1, I_ x1), (2, I_ x2), (3, I_ x3), (4, I_ x4), (5, I_ x5), (6, .ref r6), (7, .ref rs0)] (v.toList ++ []) n' S' g' 0 0 P)) ∧ ((rs0 = 0) → Runs miX11_refuses d [.ref 1, I_ 1] n (W0 dy) g (fun v n' S' g' => V miX11_pour (d + 1) 29 [(0, .ref 1), (1, I_ x1), (2, I_ x2), (3, I_ x3), (4, I_ x4), (5, I_ x5), (6, .ref r6), (7, .ref rs0)] (v.toList ++ []) n' S' g' 0 0 P)))) : V miX11_pour (d + 1) 12 [(0, .ref 1), (1, I_ x1), (2, I_ x2), (3, I_ x3), (4, I_ x4), (5, I_ x5), (6, .ref r6)] [.ref rs0] n (W0 dy) g 0 0 P := by
  refine v_astore 7 [1, 2, 3, 4, 5, 6, 7, 0] rfl (by decide) rfl ?_
  refine v_aload 8 6 rfl rfl ?_
  refine v_ifnull 9 rfl (tgt := 24) rfl (fun q1 => ?_) (fun q1 => ?_)
  · have h := h.1 q1
    refine v_aload_n 12 0 rfl rfl rfl ?_
    refine v_iconst 13 rfl ?_
    refine v_callV (st := []) [I_ 1] 14 rfl lv11_85_pour_10 (al 1 rfl hn) (wk1 dy) (by decide) rfl (Nat.le_refl _) (Nat.le_refl _) ?_
    exact h
  · have h := h.2 q1
    refine v_aload 10 7 rfl rfl ?_
    refine v_ifnonnull 11 rfl (tgt := 30) rfl (fun q2 => ?_) (fun q2 => ?_)
    · have h := h.1 q2
      refine v_aload 16 6 rfl rfl ?_
      have c3 := h.1
      have h := h.2
      refine v_callV (st := []) [] 17 rfl lv11_111_pour_8 c3.1 c3.2.1 (by decide) rfl (Nat.le_refl _) (Nat.le_refl _) ?_
      exact h
    · have h := h.2 q2
      refine v_aload_n 12 0 rfl rfl rfl ?_
      refine v_iconst 13 rfl ?_
      refine v_callV (st := []) [I_ 1] 14 rfl lv11_85_pour_10 (al 1 rfl hn) (wk1 dy) (by decide) rfl (Nat.le_refl _) (Nat.le_refl _) ?_
      exact h
set_option maxHeartbeats 8000000 in
set_option maxRecDepth 4000 in
theorem bX11_pour_29 {d n : Nat} {dy : Nat → Shp} {g : Hp} {P : Pst} {x1 : Int} {x2 : Int} {x3 : Int} {x4 : Int} {x5 : Int} {r6 : Nat} {r7 : Nat} {xs0 : Int} (hn : 100 ≤ n) (h : (xs0 = 0 ∨ xs0 = 1) ∧ P (some (I_ xs0)) n (W0 dy) g) : V miX11_pour (d + 1) 29 [(0, .ref 1), (1, I_ x1), (2, I_ x2), (3, I_ x3), (4, I_ x4), (5, I_ x5), (6, .ref r6), (7, .ref r7)] [I_ xs0] n (W0 dy) g 0 0 P := by
  have c1 := h.1
  have h := h.2
  exact v_ret (v := some (I_ xs0)) 15 rfl (Nat.zero_le _) (Nat.zero_le _) (rokZ c1) rfl h
set_option maxHeartbeats 8000000 in
set_option maxRecDepth 4000 in
theorem bX11_pour_35 {d n : Nat} {dy : Nat → Shp} {g : Hp} {P : Pst} {x1 : Int} {x2 : Int} {x3 : Int} {x4 : Int} {x5 : Int} {r6 : Nat} {r7 : Nat} {xs0 : Int} (hn : 100 ≤ n) (h : (i3 xs0) ∧ ((xs0 ≠ 0) → Runs miX11_refuses d [.ref 1, I_ 3] n (W0 dy) g (fun v n' S' g' => V miX11_pour (d + 1) 51 [(0, .ref 1), (1, I_ x1), (2, I_ x2), (3, I_ x3), (4, I_ x4), (5, I_ x5), (6, .ref r6), (7, .ref r7)] (v.toList ++ []) n' S' g' 0 0 P)) ∧ ((xs0 = 0) → (Tr n (W0 dy) r7) ∧ Runs miX9_isMissing d [.ref r7] n (W0 dy) g (fun v n' S' g' => V miX11_pour (d + 1) 43 [(0, .ref 1), (1, I_ x1), (2, I_ x2), (3, I_ x3), (4, I_ x4), (5, I_ x5), (6, .ref r6), (7, .ref r7)] (v.toList ++ []) n' S' g' 0 0 P))) : V miX11_pour (d + 1) 35 [(0, .ref 1), (1, I_ x1), (2, I_ x2), (3, I_ x3), (4, I_ x4), (5, I_ x5), (6, .ref r6), (7, .ref r7)] [I_ xs0] n (W0 dy) g 0 0 P := by
  have c1 := h.1
  have h := h.2
  refine v_if_ne 18 rfl (tgt := 46) rfl c1 (fun q2 => ?_) (fun q2 => ?_)
  · have h := h.1 q2
    refine v_aload_n 22 0 rfl rfl rfl ?_
    refine v_iconst 23 rfl ?_
    refine v_callV (st := []) [I_ 3] 24 rfl lv11_85_pour_10 (al 1 rfl hn) (wk1 dy) (by decide) rfl (Nat.le_refl _) (Nat.le_refl _) ?_
    exact h
  · have h := h.2 q2
    refine v_aload 19 7 rfl rfl ?_
    have c3 := h.1
    have h := h.2
    refine v_callV (st := []) [] 20 rfl lv11_111_pour_8 c3.1 c3.2.1 (by decide) rfl (Nat.le_refl _) (Nat.le_refl _) ?_
    exact h
set_option maxHeartbeats 8000000 in
set_option maxRecDepth 4000 in
theorem bX11_pour_43 {d n : Nat} {dy : Nat → Shp} {g : Hp} {P : Pst} {x1 : Int} {x2 : Int} {x3 : Int} {x4 : Int} {x5 : Int} {r6 : Nat} {r7 : Nat} {xs0 : Int} (hn : 100 ≤ n) (h : (i3 xs0) ∧ ((xs0 = 0) → (Tr n (W0 dy) r6) ∧ (Tr n (W0 dy) r7) ∧ (((g r6 0) = (g r7 0)) → (i3 x5) ∧ ((0 ≤ x5) → Runs miX9_hasFrom d [.ref r6, I_ x2, I_ x5] n (W0 dy) g (fun v n' S' g' => V miX11_pour (d + 1) 92 [(0, .ref 1), (1, I_ x1), (2, I_ x2), (3, I_ x3), (4, I_ x4), (5, I_ x5), (6, .ref r6), (7, .ref r7)] (v.toList ++ []) n' S' g' 0 0 P)) ∧ ((x5 < 0) → Runs miX11_refuses d [.ref 1, I_ 6] n (W0 dy) g (fun v n' S' g' => V miX11_pour (d + 1) 83 [(0, .ref 1), (1, I_ x1), (2, I_ x2), (3, I_ x3), (4, I_ x4), (5, I_ x5), (6, .ref r6), (7, .ref r7)] (v.toList ++ []) n' S' g' 0 0 P))) ∧ (((g r6 0) ≠ (g r7 0)) → Runs miX11_refuses d [.ref 1, I_ 12] n (W0 dy) g (fun v n' S' g' => V miX11_pour (d + 1) 71 [(0, .ref 1), (1, I_ x1), (2, I_ x2), (3, I_ x3), (4, I_ x4), (5, I_ x5), (6, .ref r6), (7, .ref r7)] (v.toList ++ []) n' S' g' 0 0 P))) ∧ ((xs0 ≠ 0) → Runs miX11_refuses d [.ref 1, I_ 3] n (W0 dy) g (fun v n' S' g' => V miX11_pour (d + 1) 51 [(0, .ref 1), (1, I_ x1), (2, I_ x2), (3, I_ x3), (4, I_ x4), (5, I_ x5), (6, .ref r6), (7, .ref r7)] (v.toList ++ []) n' S' g' 0 0 P))) : V miX11_pour (d + 1) 43 [(0, .ref 1), (1, I_ x1), (2, I_ x2), (3, I_ x3), (4, I_ x4), (5, I_ x5), (6, .ref r6), (7, .ref r7)] [I_ xs0] n (W0 dy) g 0 0 P := by
  have c1 := h.1
  have h := h.2
  refine v_if_eq 21 rfl (tgt := 52) rfl c1 (fun q2 => ?_) (fun q2 => ?_)
  · have h := h.1 q2
    refine v_aload 26 6 rfl rfl ?_
    have c3 := h.1
    have h := h.2
    refine v_gI 27 rfl fl11_114_8.r c3.1 c3.2.1 (by decide) rfl c3.2.2.1 (x := g r6 0) rfl ?_
    refine v_rng fun w4 => ?_
    have p5 : i3 (g r6 0) := rI w4 (q := 0) c3.1 c3.2.1 rfl rfl
    refine v_aload 28 7 rfl rfl ?_
    have c6 := h.1
    have h := h.2
    refine v_gI 29 rfl fl11_114_8.r c6.1 c6.2.1 (by decide) rfl c6.2.2.1 (x := g r7 0) rfl ?_
    refine v_rng fun w7 => ?_
    have p8 : i3 (g r7 0) := rI w7 (q := 0) c6.1 c6.2.1 rfl rfl
    refine v_icmp_eq 30 rfl (tgt := 72) rfl p5 p8 (fun q9 => ?_) (fun q9 => ?_)
    · have h := h.1 q9
      refine v_iload 35 5 rfl rfl ?_
      have c10 := h.1
      have h := h.2
      refine v_if_ge 36 rfl (tgt := 84) rfl c10 (fun q11 => ?_) (fun q11 => ?_)
      · have h := h.1 q11
        refine v_aload 41 6 rfl rfl ?_
        refine v_iload_n 42 2 rfl rfl rfl ?_
        refine v_iload 43 5 rfl rfl ?_
        refine v_callV (st := []) [I_ x2, I_ x5] 44 rfl lv11_117_pour_8 c3.1 c3.2.1 (by decide) rfl (Nat.le_refl _) (Nat.le_refl _) ?_
        exact h
      · have h := h.2 q11
        refine v_aload_n 37 0 rfl rfl rfl ?_
        refine v_bipush 38 rfl (by decide) ?_
        refine v_callV (st := []) [I_ 6] 39 rfl lv11_85_pour_10 (al 1 rfl hn) (wk1 dy) (by decide) rfl (Nat.le_refl _) (Nat.le_refl _) ?_
        exact h
    · have h := h.2 q9
      refine v_aload_n 31 0 rfl rfl rfl ?_
      refine v_bipush 32 rfl (by decide) ?_
      refine v_callV (st := []) [I_ 12] 33 rfl lv11_85_pour_10 (al 1 rfl hn) (wk1 dy) (by decide) rfl (Nat.le_refl _) (Nat.le_refl _) ?_
      exact h
  · have h := h.2 q2
    refine v_aload_n 22 0 rfl rfl rfl ?_
    refine v_iconst 23 rfl ?_
    refine v_callV (st := []) [I_ 3] 24 rfl lv11_85_pour_10 (al 1 rfl hn) (wk1 dy) (by decide) rfl (Nat.le_refl _) (Nat.le_refl _) ?_
    exact h
set_option maxHeartbeats 8000000 in
set_option maxRecDepth 4000 in
theorem bX11_pour_51 {d n : Nat} {dy : Nat → Shp} {g : Hp} {P : Pst} {x1 : Int} {x2 : Int} {x3 : Int} {x4 : Int} {x5 : Int} {r6 : Nat} {r7 : Nat} {xs0 : Int} (hn : 100 ≤ n) (h : (xs0 = 0 ∨ xs0 = 1) ∧ P (some (I_ xs0)) n (W0 dy) g) : V miX11_pour (d + 1) 51 [(0, .ref 1), (1, I_ x1), (2, I_ x2), (3, I_ x3), (4, I_ x4), (5, I_ x5), (6, .ref r6), (7, .ref r7)] [I_ xs0] n (W0 dy) g 0 0 P := by
  have c1 := h.1
  have h := h.2
  exact v_ret (v := some (I_ xs0)) 25 rfl (Nat.zero_le _) (Nat.zero_le _) (rokZ c1) rfl h
set_option maxHeartbeats 8000000 in
set_option maxRecDepth 4000 in
theorem bX11_pour_71 {d n : Nat} {dy : Nat → Shp} {g : Hp} {P : Pst} {x1 : Int} {x2 : Int} {x3 : Int} {x4 : Int} {x5 : Int} {r6 : Nat} {r7 : Nat} {xs0 : Int} (hn : 100 ≤ n) (h : (xs0 = 0 ∨ xs0 = 1) ∧ P (some (I_ xs0)) n (W0 dy) g) : V miX11_pour (d + 1) 71 [(0, .ref 1), (1, I_ x1), (2, I_ x2), (3, I_ x3), (4, I_ x4), (5, I_ x5), (6, .ref r6), (7, .ref r7)] [I_ xs0] n (W0 dy) g 0 0 P := by
  have c1 := h.1
  have h := h.2
  exact v_ret (v := some (I_ xs0)) 34 rfl (Nat.zero_le _) (Nat.zero_le _) (rokZ c1) rfl h
set_option maxHeartbeats 8000000 in
set_option maxRecDepth 4000 in
theorem bX11_pour_83 {d n : Nat} {dy : Nat → Shp} {g : Hp} {P : Pst} {x1 : Int} {x2 : Int} {x3 : Int} {x4 : Int} {x5 : Int} {r6 : Nat} {r7 : Nat} {xs0 : Int} (hn : 100 ≤ n) (h : (xs0 = 0 ∨ xs0 = 1) ∧ P (some (I_ xs0)) n (W0 dy) g) : V miX11_pour (d + 1) 83 [(0, .ref 1), (1, I_ x1), (2, I_ x2), (3, I_ x3), (4, I_ x4), (5, I_ x5), (6, .ref r6), (7, .ref r7)] [I_ xs0] n (W0 dy) g 0 0 P := by
  have c1 := h.1
  have h := h.2
  exact v_ret (v := some (I_ xs0)) 40 rfl (Nat.zero_le _) (Nat.zero_le _) (rokZ c1) rfl h
set_option maxHeartbeats 8000000 in
set_option maxRecDepth 4000 in
theorem bX11_pour_92 {d n : Nat} {dy : Nat → Shp} {g : Hp} {P : Pst} {x1 : Int} {x2 : Int} {x3 : Int} {x4 : Int} {x5 : Int} {r6 : Nat} {r7 : Nat} {xs0 : Int} (hn : 100 ≤ n) (h : (i3 xs0) ∧ ((xs0 = 0) → Runs miX11_refuses d [.ref 1, I_ 4] n (W0 dy) g (fun v n' S' g' => V miX11_pour (d + 1) 112 [(0, .ref 1), (1, I_ x1), (2, I_ x2), (3, I_ x3), (4, I_ x4), (5, I_ x5), (6, .ref r6), (7, .ref r7)] (v.toList ++ []) n' S' g' 0 0 P)) ∧ ((xs0 ≠ 0) → (Tr n (W0 dy) r7) ∧ Runs miX9_hasFrom d [.ref r7, I_ x4, I_ x5] n (W0 dy) g (fun v n' S' g' => V miX11_pour (d + 1) 104 [(0, .ref 1), (1, I_ x1), (2, I_ x2), (3, I_ x3), (4, I_ x4), (5, I_ x5), (6, .ref r6), (7, .ref r7)] (v.toList ++ []) n' S' g' 0 0 P))) : V miX11_pour (d + 1) 92 [(0, .ref 1), (1, I_ x1), (2, I_ x2), (3, I_ x3), (4, I_ x4), (5, I_ x5), (6, .ref r6), (7, .ref r7)] [I_ xs0] n (W0 dy) g 0 0 P := by
  have c1 := h.1
  have h := h.2
  refine v_if_eq 45 rfl (tgt := 107) rfl c1 (fun q2 => ?_) (fun q2 => ?_)
  · have h := h.1 q2
    refine v_aload_n 51 0 rfl rfl rfl ?_
    refine v_iconst 52 rfl ?_
    refine v_callV (st := []) [I_ 4] 53 rfl lv11_85_pour_10 (al 1 rfl hn) (wk1 dy) (by decide) rfl (Nat.le_refl _) (Nat.le_refl _) ?_
    exact h
  · have h := h.2 q2
    refine v_aload 46 7 rfl rfl ?_
    refine v_iload 47 4 rfl rfl ?_
    refine v_iload 48 5 rfl rfl ?_
    have c3 := h.1
    have h := h.2
    refine v_callV (st := []) [I_ x4, I_ x5] 49 rfl lv11_117_pour_8 c3.1 c3.2.1 (by decide) rfl (Nat.le_refl _) (Nat.le_refl _) ?_
    exact h
set_option maxHeartbeats 8000000 in
set_option maxRecDepth 4000 in
theorem bX11_pour_104 {d n : Nat} {dy : Nat → Shp} {g : Hp} {P : Pst} {x1 : Int} {x2 : Int} {x3 : Int} {x4 : Int} {x5 : Int} {r6 : Nat} {r7 : Nat} {xs0 : Int} (hn : 100 ≤ n) (h : (i3 xs0) ∧ ((xs0 ≠ 0) → (Tr n (W0 dy) r6) ∧ (Tr n (W0 dy) r7) ∧ (0 ≤ x2 ∧ 0 ≤ x4 ∧ 0 ≤ x5 ∧ x2 + x5 ≤ 16 ∧ x4 + x5 ≤ 16) ∧ V miX11_pour (d + 1) 131 [(0, .ref 1), (1, I_ x1), (2, I_ x2), (3, I_ x3), (4, I_ x4), (5, I_ x5), (6, .ref r6), (7, .ref r7)] [] n (W0 dy) (cpG g (r6 + 1) (x2).toNat (r7 + 1) (x4).toNat (x5).toNat) 0 0 P) ∧ ((xs0 = 0) → Runs miX11_refuses d [.ref 1, I_ 4] n (W0 dy) g (fun v n' S' g' => V miX11_pour (d + 1) 112 [(0, .ref 1), (1, I_ x1), (2, I_ x2), (3, I_ x3), (4, I_ x4), (5, I_ x5), (6, .ref r6), (7, .ref r7)] (v.toList ++ []) n' S' g' 0 0 P))) : V miX11_pour (d + 1) 104 [(0, .ref 1), (1, I_ x1), (2, I_ x2), (3, I_ x3), (4, I_ x4), (5, I_ x5), (6, .ref r6), (7, .ref r7)] [I_ xs0] n (W0 dy) g 0 0 P := by
  have c1 := h.1
  have h := h.2
  refine v_if_ne 50 rfl (tgt := 113) rfl c1 (fun q2 => ?_) (fun q2 => ?_)
  · have h := h.1 q2
    refine v_aload 55 6 rfl rfl ?_
    have c3 := h.1
    have h := h.2
    refine v_gK 56 rfl fl11_121_8 c3.1 c3.2.1 (by decide) rfl (r := r6 + 1) c3.2.2.2.2.1 ?_
    refine v_iload_n 57 2 rfl rfl rfl ?_
    refine v_aload 58 7 rfl rfl ?_
    have c4 := h.1
    have h := h.2
    refine v_gK 59 rfl fl11_121_8 c4.1 c4.2.1 (by decide) rfl (r := r7 + 1) c4.2.2.2.2.1 ?_
    refine v_iload 60 4 rfl rfl ?_
    refine v_iload 61 5 rfl rfl ?_
    exact v_acopy (N := 16) (N2 := 16) (st := []) 62 rfl lac_125 rfl c3.2.2.2.2.2.1 c4.2.2.2.2.2.1 c3.2.2.2.2.2.2.1 c3.2.2.2.2.2.2.2 c4.2.2.2.2.2.2.1 c4.2.2.2.2.2.2.2 (by decide) h.1.1 h.1.2.1 h.1.2.2.1 h.1.2.2.2.1 h.1.2.2.2.2 h.2
  · have h := h.2 q2
    refine v_aload_n 51 0 rfl rfl rfl ?_
    refine v_iconst 52 rfl ?_
    refine v_callV (st := []) [I_ 4] 53 rfl lv11_85_pour_10 (al 1 rfl hn) (wk1 dy) (by decide) rfl (Nat.le_refl _) (Nat.le_refl _) ?_
    exact h
set_option maxHeartbeats 8000000 in
set_option maxRecDepth 4000 in
theorem bX11_pour_112 {d n : Nat} {dy : Nat → Shp} {g : Hp} {P : Pst} {x1 : Int} {x2 : Int} {x3 : Int} {x4 : Int} {x5 : Int} {r6 : Nat} {r7 : Nat} {xs0 : Int} (hn : 100 ≤ n) (h : (xs0 = 0 ∨ xs0 = 1) ∧ P (some (I_ xs0)) n (W0 dy) g) : V miX11_pour (d + 1) 112 [(0, .ref 1), (1, I_ x1), (2, I_ x2), (3, I_ x3), (4, I_ x4), (5, I_ x5), (6, .ref r6), (7, .ref r7)] [I_ xs0] n (W0 dy) g 0 0 P := by
  have c1 := h.1
  have h := h.2
  exact v_ret (v := some (I_ xs0)) 54 rfl (Nat.zero_le _) (Nat.zero_le _) (rokZ c1) rfl h
set_option maxHeartbeats 8000000 in
set_option maxRecDepth 4000 in
theorem bX11_pour_131 {d n : Nat} {dy : Nat → Shp} {g : Hp} {P : Pst} {x1 : Int} {x2 : Int} {x3 : Int} {x4 : Int} {x5 : Int} {r6 : Nat} {r7 : Nat} (hn : 100 ≤ n) (h : Runs miX11_allows d [.ref 1] n (W0 dy) g (fun v n' S' g' => V miX11_pour (d + 1) 135 [(0, .ref 1), (1, I_ x1), (2, I_ x2), (3, I_ x3), (4, I_ x4), (5, I_ x5), (6, .ref r6), (7, .ref r7)] (v.toList ++ []) n' S' g' 0 0 P)) : V miX11_pour (d + 1) 131 [(0, .ref 1), (1, I_ x1), (2, I_ x2), (3, I_ x3), (4, I_ x4), (5, I_ x5), (6, .ref r6), (7, .ref r7)] [] n (W0 dy) g 0 0 P := by
  refine v_aload_n 63 0 rfl rfl rfl ?_
  refine v_callV (st := []) [] 64 rfl lv11_93_pour_10 (al 1 rfl hn) (wk1 dy) (by decide) rfl (Nat.le_refl _) (Nat.le_refl _) ?_
  exact h
set_option maxHeartbeats 8000000 in
set_option maxRecDepth 4000 in
theorem bX11_pour_135 {d n : Nat} {dy : Nat → Shp} {g : Hp} {P : Pst} {x1 : Int} {x2 : Int} {x3 : Int} {x4 : Int} {x5 : Int} {r6 : Nat} {r7 : Nat} {xs0 : Int} (hn : 100 ≤ n) (h : (xs0 = 0 ∨ xs0 = 1) ∧ P (some (I_ xs0)) n (W0 dy) g) : V miX11_pour (d + 1) 135 [(0, .ref 1), (1, I_ x1), (2, I_ x2), (3, I_ x3), (4, I_ x4), (5, I_ x5), (6, .ref r6), (7, .ref r7)] [I_ xs0] n (W0 dy) g 0 0 P := by
  have c1 := h.1
  have h := h.2
  exact v_ret (v := some (I_ xs0)) 65 rfl (Nat.zero_le _) (Nat.zero_le _) (rokZ c1) rfl h
theorem wX11_pour {d n : Nat} {dy : Nat → Shp} {g : Hp} {P : Pst} {x1 : Int} {x2 : Int} {x3 : Int} {x4 : Int} {x5 : Int} (hn : 100 ≤ n) (h : Runs miX11_trayAt d [.ref 1, I_ x1] n (W0 dy) g (fun v n' S' g' => V miX11_pour (d + 1) 5 [(0, .ref 1), (1, I_ x1), (2, I_ x2), (3, I_ x3), (4, I_ x4), (5, I_ x5)] (v.toList ++ []) n' S' g' 0 0 P)) : Runs miX11_pour (d + 1) [.ref 1, I_ x1, I_ x2, I_ x3, I_ x4, I_ x5] n (W0 dy) g P := Runs.of rfl rfl deX11_pour (Nat.le_of_ble_eq_true rfl) (bX11_pour_0 hn h)

