theorem lv11_403_prepareClearing_0 : LkV miX11_prepareClearing miX0_begin 403 0 0 := ⟨⟨⟨tbG_in (List.mem_append_right _ (List.mem_of_getElem? (i := 837) (by decide +kernel))) rfl, tbG_in (List.mem_append_right _ (List.mem_of_getElem? (i := 5) (by decide +kernel))) rfl, tbG_in (List.mem_append_right _ (List.mem_of_getElem? (i := 834) (by decide +kernel))) rfl⟩, ⟨by decide +kernel, by decide +kernel, by decide +kernel⟩, by decide⟩, tbG_in (List.mem_append_right _ (List.mem_of_getElem? (i := 835) (by decide +kernel))) rfl, RX0, TX0, 11, rfl, tbG_in (List.mem_append_right _ (List.mem_of_getElem? (i := 836) (by decide +kernel))) rfl⟩
theorem lv11_406_prepareClearing_1 : LkV miX11_prepareClearing miX1_holds 406 1 1 := ⟨⟨⟨tbG_in (List.mem_append_right _ (List.mem_of_getElem? (i := 841) (by decide +kernel))) rfl, tbG_in (List.mem_append_right _ (List.mem_of_getElem? (i := 2) (by decide +kernel))) rfl, tbG_in (List.mem_append_right _ (List.mem_of_getElem? (i := 838) (by decide +kernel))) rfl⟩, ⟨by decide +kernel, by decide +kernel, by decide +kernel⟩, by decide⟩, tbG_in (List.mem_append_right _ (List.mem_of_getElem? (i := 839) (by decide +kernel))) rfl, RX1, TX1, 3, rfl, tbG_in (List.mem_append_right _ (List.mem_of_getElem? (i := 840) (by decide +kernel))) rfl⟩
theorem lv11_410_prepareClearing_0 : LkV miX11_prepareClearing miX0_offer 410 1 0 := ⟨⟨⟨tbG_in (List.mem_append_right _ (List.mem_of_getElem? (i := 845) (by decide +kernel))) rfl, tbG_in (List.mem_append_right _ (List.mem_of_getElem? (i := 5) (by decide +kernel))) rfl, tbG_in (List.mem_append_right _ (List.mem_of_getElem? (i := 842) (by decide +kernel))) rfl⟩, ⟨by decide +kernel, by decide +kernel, by decide +kernel⟩, by decide⟩, tbG_in (List.mem_append_right _ (List.mem_of_getElem? (i := 843) (by decide +kernel))) rfl, RX0, TX0, 11, rfl, tbG_in (List.mem_append_right _ (List.mem_of_getElem? (i := 844) (by decide +kernel))) rfl⟩
theorem lv11_302_prepareClearing_10 : LkV miX11_prepareClearing miX11_canMeet 302 3 10 := ⟨⟨⟨tbG_in (List.mem_append_right _ (List.mem_of_getElem? (i := 824) (by decide +kernel))) rfl, tbG_in (List.mem_append_right _ (List.mem_of_getElem? (i := 1) (by decide +kernel))) rfl, tbG_in (List.mem_append_right _ (List.mem_of_getElem? (i := 821) (by decide +kernel))) rfl⟩, ⟨by decide +kernel, by decide +kernel, by decide +kernel⟩, by decide⟩, tbG_in (List.mem_append_right _ (List.mem_of_getElem? (i := 823) (by decide +kernel))) rfl, RX11, TX11, 13, rfl, tbG_in (List.mem_append_left _ (List.mem_of_getElem? (i := 21) (by decide +kernel))) rfl⟩
theorem lv11_413_prepareClearing_0 : LkV miX11_prepareClearing miX0_watch 413 2 0 := ⟨⟨⟨tbG_in (List.mem_append_right _ (List.mem_of_getElem? (i := 849) (by decide +kernel))) rfl, tbG_in (List.mem_append_right _ (List.mem_of_getElem? (i := 5) (by decide +kernel))) rfl, tbG_in (List.mem_append_right _ (List.mem_of_getElem? (i := 846) (by decide +kernel))) rfl⟩, ⟨by decide +kernel, by decide +kernel, by decide +kernel⟩, by decide⟩, tbG_in (List.mem_append_right _ (List.mem_of_getElem? (i := 847) (by decide +kernel))) rfl, RX0, TX0, 11, rfl, tbG_in (List.mem_append_right _ (List.mem_of_getElem? (i := 848) (by decide +kernel))) rfl⟩
set_option maxHeartbeats 8000000 in
set_option maxRecDepth 4000 in
theorem bX11_prepareClearing_0 {d n : Nat} {dy : Nat → Shp} {g : Hp} {P : Pst}  (hn : 100 ≤ n) (h : Runs miX0_begin d [.ref 11] n (W0 dy) g (fun v n' S' g' => V miX11_prepareClearing (d + 1) 7 [(0, .ref 1)] (v.toList ++ []) n' S' g' 0 0 P)) : V miX11_prepareClearing (d + 1) 0 [(0, .ref 1)] [] n (W0 dy) g 0 0 P := by
  refine v_aload_n 0 0 rfl rfl rfl ?_
  refine v_gK 1 rfl fl11_55_10.r (al 1 rfl hn) (wk1 dy) (by decide) rfl (r := 11) (wc1_8 dy) ?_
  refine v_callV (st := []) [] 2 rfl lv11_403_prepareClearing_0 (al 11 rfl hn) (wk11 dy) (by decide) rfl (Nat.le_refl _) (Nat.le_refl _) ?_
  exact h
set_option maxHeartbeats 8000000 in
set_option maxRecDepth 4000 in
theorem bX11_prepareClearing_7 {d n : Nat} {dy : Nat → Shp} {g : Hp} {P : Pst}  (hn : 100 ≤ n) (h : V miX11_prepareClearing (d + 1) 9 [(0, .ref 1), (1, I_ 0)] [] n (W0 dy) g 0 0 P) : V miX11_prepareClearing (d + 1) 7 [(0, .ref 1)] [] n (W0 dy) g 0 0 P := by
  refine v_iconst 3 rfl ?_
  refine v_istore_n 4 [1, 0] rfl rfl (by decide) rfl ?_
  exact h
set_option maxHeartbeats 8000000 in
set_option maxRecDepth 4000 in
theorem bX11_prepareClearing_9 {d n : Nat} {dy : Nat → Shp} {g : Hp} {P : Pst} {x1 : Int} (hn : 100 ≤ n) (h : (i3 x1) ∧ (((g 1 2) ≤ x1) → V miX11_prepareClearing (d + 1) 62 [(0, .ref 1), (1, I_ 0)] [] n (W0 dy) g 0 0 P) ∧ ((x1 < (g 1 2)) → (0 ≤ x1 ∧ x1 < 60) ∧ ((((g 3 x1.toNat).toNat) = 0) → V miX11_prepareClearing (d + 1) 54 [(0, .ref 1), (1, I_ x1), (2, .ref ((g 3 x1.toNat).toNat))] [] n (W0 dy) g 0 0 P) ∧ ((0 < ((g 3 x1.toNat).toNat)) → (Pt n (W0 dy) ((g 3 x1.toNat).toNat)) ∧ ((((g ((g 3 x1.toNat).toNat) 3).toNat) = 0) → V miX11_prepareClearing (d + 1) 54 [(0, .ref 1), (1, I_ x1), (2, .ref ((g 3 x1.toNat).toNat))] [] n (W0 dy) g 0 0 P) ∧ ((0 < ((g ((g 3 x1.toNat).toNat) 3).toNat)) → Runs miX1_holds d [.ref 4, .ref ((g 3 x1.toNat).toNat)] n (W0 dy) g (fun v n' S' g' => V miX11_prepareClearing (d + 1) 43 [(0, .ref 1), (1, I_ x1), (2, .ref ((g 3 x1.toNat).toNat))] (v.toList ++ []) n' S' g' 0 0 P))))) : V miX11_prepareClearing (d + 1) 9 [(0, .ref 1), (1, I_ x1)] [] n (W0 dy) g 0 0 P := by
  refine v_iload_n 5 1 rfl rfl rfl ?_
  refine v_aload_n 6 0 rfl rfl rfl ?_
  refine v_gI 7 rfl fl11_21_10.r (al 1 rfl hn) (wk1 dy) (by decide) rfl (wc1_2 dy) (x := g 1 2) rfl ?_
  refine v_rng fun w1 => ?_
  have p2 : i3 (g 1 2) := rI w1 (q := 2) (al 1 rfl hn) (wk1 dy) rfl rfl
  have c3 := h.1
  have h := h.2
  refine v_icmp_ge 8 rfl (tgt := 60) rfl c3 p2 (fun q4 => ?_) (fun q4 => ?_)
  · have h := h.1 q4
    refine v_iconst 30 rfl ?_
    refine v_istore_n 31 [1, 0] rfl rfl (by decide) rfl ?_
    exact h
  · have h := h.2 q4
    refine v_aload_n 9 0 rfl rfl rfl ?_
    refine v_gK 10 rfl fl11_17_10.r (al 1 rfl hn) (wk1 dy) (by decide) rfl (r := 3) (wc1_1 dy) ?_
    refine v_iload_n 11 1 rfl rfl rfl ?_
    have c5 := h.1
    have h := h.2
    refine v_pa (N := 60) 12 rfl (al 3 rfl hn) (wk3 dy) (wn3 dy) (by decide) c5 (y := g 3 x1.toNat) rfl ?_
    refine v_astore_n 13 [1, 2, 0] rfl rfl (by decide) rfl ?_
    refine v_aload_n 14 2 rfl rfl rfl ?_
    refine v_ifnull 15 rfl (tgt := 54) rfl (fun q6 => ?_) (fun q6 => ?_)
    · have h := h.1 q6
      exact h
    · have h := h.2 q6
      refine v_aload_n 16 2 rfl rfl rfl ?_
      have c7 := h.1
      have h := h.2
      refine v_pR 17 rfl ⟨fl11_196_3.r, fl11_196_5.r, fl11_196_9.r⟩ c7 ⟨rfl, rfl, rfl⟩ (x := g ((g 3 x1.toNat).toNat) 3) rfl ?_
      refine v_ifnull 18 rfl (tgt := 54) rfl (fun q8 => ?_) (fun q8 => ?_)
      · have h := h.1 q8
        exact h
      · have h := h.2 q8
        refine v_aload_n 19 0 rfl rfl rfl ?_
        refine v_gK 20 rfl fl11_31_10.r (al 1 rfl hn) (wk1 dy) (by decide) rfl (r := 4) (wc1_4 dy) ?_
        refine v_aload_n 21 2 rfl rfl rfl ?_
        refine v_callV (st := []) [.ref ((g 3 x1.toNat).toNat)] 22 rfl lv11_406_prepareClearing_1 (al 4 rfl hn) (wk4 dy) (by decide) rfl (Nat.le_refl _) (Nat.le_refl _) ?_
        exact h
set_option maxHeartbeats 8000000 in
set_option maxRecDepth 4000 in
theorem bX11_prepareClearing_43 {d n : Nat} {dy : Nat → Shp} {g : Hp} {P : Pst} {x1 : Int} {r2 : Nat} {xs0 : Int} (hn : 100 ≤ n) (h : (i3 xs0) ∧ ((xs0 = 0) → V miX11_prepareClearing (d + 1) 54 [(0, .ref 1), (1, I_ x1), (2, .ref r2)] [] n (W0 dy) g 0 0 P) ∧ ((xs0 ≠ 0) → Runs miX0_offer d [.ref 11, .ref r2] n (W0 dy) g (fun v n' S' g' => V miX11_prepareClearing (d + 1) 54 [(0, .ref 1), (1, I_ x1), (2, .ref r2)] (v.toList ++ []) n' S' g' 0 0 P))) : V miX11_prepareClearing (d + 1) 43 [(0, .ref 1), (1, I_ x1), (2, .ref r2)] [I_ xs0] n (W0 dy) g 0 0 P := by
  have c1 := h.1
  have h := h.2
  refine v_if_eq 23 rfl (tgt := 54) rfl c1 (fun q2 => ?_) (fun q2 => ?_)
  · have h := h.1 q2
    exact h
  · have h := h.2 q2
    refine v_aload_n 24 0 rfl rfl rfl ?_
    refine v_gK 25 rfl fl11_55_10.r (al 1 rfl hn) (wk1 dy) (by decide) rfl (r := 11) (wc1_8 dy) ?_
    refine v_aload_n 26 2 rfl rfl rfl ?_
    refine v_callV (st := []) [.ref r2] 27 rfl lv11_410_prepareClearing_0 (al 11 rfl hn) (wk11 dy) (by decide) rfl (Nat.le_refl _) (Nat.le_refl _) ?_
    exact h
set_option maxHeartbeats 8000000 in
set_option maxRecDepth 4000 in
theorem bX11_prepareClearing_54 {d n : Nat} {dy : Nat → Shp} {g : Hp} {P : Pst} {x1 : Int} {r2 : Nat} (hn : 100 ≤ n) (h : V miX11_prepareClearing (d + 1) 9 [(0, .ref 1), (1, I_ (x1 + 1))] [] n (W0 dy) g 0 0 P) : V miX11_prepareClearing (d + 1) 54 [(0, .ref 1), (1, I_ x1), (2, .ref r2)] [] n (W0 dy) g 0 0 P := by
  refine v_iinc 28 1 [1, 0, 2] rfl rfl (by decide) rfl ?_
  refine v_goto 29 rfl (tgt := 9) rfl ?_
  refine v_loc [0, 1] rfl ?_
  exact h
set_option maxHeartbeats 8000000 in
set_option maxRecDepth 4000 in
theorem bX11_prepareClearing_62 {d n : Nat} {dy : Nat → Shp} {g : Hp} {P : Pst} {x1 : Int} (hn : 100 ≤ n) (h : (i3 x1) ∧ (((g 4 1) ≤ x1) → P none n (W0 dy) g) ∧ ((x1 < (g 4 1)) → V miX11_prepareClearing (d + 1) 77 [(0, .ref 1), (1, I_ x1), (2, I_ (x1 + 1))] [] n (W0 dy) g 0 0 P)) : V miX11_prepareClearing (d + 1) 62 [(0, .ref 1), (1, I_ x1)] [] n (W0 dy) g 0 0 P := by
  refine v_iload_n 32 1 rfl rfl rfl ?_
  refine v_aload_n 33 0 rfl rfl rfl ?_
  refine v_gK 34 rfl fl11_31_10.r (al 1 rfl hn) (wk1 dy) (by decide) rfl (r := 4) (wc1_4 dy) ?_
  refine v_gI 35 rfl fl11_298_1.r (al 4 rfl hn) (wk4 dy) (by decide) rfl (wc4_1 dy) (x := g 4 1) rfl ?_
  refine v_rng fun w1 => ?_
  have p2 : i3 (g 4 1) := rI w1 (q := 1) (al 4 rfl hn) (wk4 dy) rfl rfl
  have c3 := h.1
  have h := h.2
  refine v_icmp_ge 36 rfl (tgt := 151) rfl c3 p2 (fun q4 => ?_) (fun q4 => ?_)
  · have h := h.1 q4
    exact v_ret (v := none) 77 rfl (Nat.zero_le _) (Nat.zero_le _) trivial rfl h
  · have h := h.2 q4
    refine v_iload_n 37 1 rfl rfl rfl ?_
    refine v_iconst 38 rfl ?_
    refine v_iadd 39 rfl ?_
    refine v_istore_n 40 [1, 2, 0] rfl rfl (by decide) rfl ?_
    exact h
set_option maxHeartbeats 8000000 in
set_option maxRecDepth 4000 in
theorem bX11_prepareClearing_77 {d n : Nat} {dy : Nat → Shp} {g : Hp} {P : Pst} {x1 : Int} {x2 : Int} (hn : 100 ≤ n) (h : (i3 x2) ∧ (((g 4 1) ≤ x2) → V miX11_prepareClearing (d + 1) 62 [(0, .ref 1), (1, I_ (x1 + 1))] [] n (W0 dy) g 0 0 P) ∧ ((x2 < (g 4 1)) → (0 ≤ x1 ∧ x1 < 60) ∧ (0 ≤ x2 ∧ x2 < 60) ∧ Runs miX11_canMeet d [.ref 1, .ref ((g 5 x1.toNat).toNat), .ref ((g 5 x2.toNat).toNat), I_ 5] n (W0 dy) g (fun v n' S' g' => V miX11_prepareClearing (d + 1) 111 [(0, .ref 1), (1, I_ x1), (2, I_ x2)] (v.toList ++ []) n' S' g' 0 0 P))) : V miX11_prepareClearing (d + 1) 77 [(0, .ref 1), (1, I_ x1), (2, I_ x2)] [] n (W0 dy) g 0 0 P := by
  refine v_iload_n 41 2 rfl rfl rfl ?_
  refine v_aload_n 42 0 rfl rfl rfl ?_
  refine v_gK 43 rfl fl11_31_10.r (al 1 rfl hn) (wk1 dy) (by decide) rfl (r := 4) (wc1_4 dy) ?_
  refine v_gI 44 rfl fl11_298_1.r (al 4 rfl hn) (wk4 dy) (by decide) rfl (wc4_1 dy) (x := g 4 1) rfl ?_
  refine v_rng fun w1 => ?_
  have p2 : i3 (g 4 1) := rI w1 (q := 1) (al 4 rfl hn) (wk4 dy) rfl rfl
  have c3 := h.1
  have h := h.2
  refine v_icmp_ge 45 rfl (tgt := 145) rfl c3 p2 (fun q4 => ?_) (fun q4 => ?_)
  · have h := h.1 q4
    refine v_iinc 75 1 [1, 0, 2] rfl rfl (by decide) rfl ?_
    refine v_goto 76 rfl (tgt := 62) rfl ?_
    refine v_loc [0, 1] rfl ?_
    exact h
  · have h := h.2 q4
    refine v_aload_n 46 0 rfl rfl rfl ?_
    refine v_aload_n 47 0 rfl rfl rfl ?_
    refine v_gK 48 rfl fl11_31_10.r (al 1 rfl hn) (wk1 dy) (by decide) rfl (r := 4) (wc1_4 dy) ?_
    refine v_gK 49 rfl fl11_299_1 (al 4 rfl hn) (wk4 dy) (by decide) rfl (r := 5) (wc4_0 dy) ?_
    refine v_iload_n 50 1 rfl rfl rfl ?_
    have c5 := h.1
    have h := h.2
    refine v_pa (N := 60) 51 rfl (al 5 rfl hn) (wk5 dy) (wn5 dy) (by decide) c5 (y := g 5 x1.toNat) rfl ?_
    refine v_aload_n 52 0 rfl rfl rfl ?_
    refine v_gK 53 rfl fl11_31_10.r (al 1 rfl hn) (wk1 dy) (by decide) rfl (r := 4) (wc1_4 dy) ?_
    refine v_gK 54 rfl fl11_299_1 (al 4 rfl hn) (wk4 dy) (by decide) rfl (r := 5) (wc4_0 dy) ?_
    refine v_iload_n 55 2 rfl rfl rfl ?_
    have c6 := h.1
    have h := h.2
    refine v_pa (N := 60) 56 rfl (al 5 rfl hn) (wk5 dy) (wn5 dy) (by decide) c6 (y := g 5 x2.toNat) rfl ?_
    refine v_iconst 57 rfl ?_
    refine v_callV (st := []) [.ref ((g 5 x1.toNat).toNat), .ref ((g 5 x2.toNat).toNat), I_ 5] 58 rfl lv11_302_prepareClearing_10 (al 1 rfl hn) (wk1 dy) (by decide) rfl (Nat.le_refl _) (Nat.le_refl _) ?_
    exact h
set_option maxHeartbeats 8000000 in
set_option maxRecDepth 4000 in
theorem bX11_prepareClearing_111 {d n : Nat} {dy : Nat → Shp} {g : Hp} {P : Pst} {x1 : Int} {x2 : Int} {xs0 : Int} (hn : 100 ≤ n) (h : (i3 xs0) ∧ ((xs0 = 0) → V miX11_prepareClearing (d + 1) 139 [(0, .ref 1), (1, I_ x1), (2, I_ x2)] [] n (W0 dy) g 0 0 P) ∧ ((xs0 ≠ 0) → (0 ≤ x1 ∧ x1 < 60) ∧ (0 ≤ x2 ∧ x2 < 60) ∧ Runs miX0_watch d [.ref 11, .ref ((g 5 x1.toNat).toNat), .ref ((g 5 x2.toNat).toNat)] n (W0 dy) g (fun v n' S' g' => V miX11_prepareClearing (d + 1) 139 [(0, .ref 1), (1, I_ x1), (2, I_ x2)] (v.toList ++ []) n' S' g' 0 0 P))) : V miX11_prepareClearing (d + 1) 111 [(0, .ref 1), (1, I_ x1), (2, I_ x2)] [I_ xs0] n (W0 dy) g 0 0 P := by
  have c1 := h.1
  have h := h.2
  refine v_if_eq 59 rfl (tgt := 139) rfl c1 (fun q2 => ?_) (fun q2 => ?_)
  · have h := h.1 q2
    exact h
  · have h := h.2 q2
    refine v_aload_n 60 0 rfl rfl rfl ?_
    refine v_gK 61 rfl fl11_55_10.r (al 1 rfl hn) (wk1 dy) (by decide) rfl (r := 11) (wc1_8 dy) ?_
    refine v_aload_n 62 0 rfl rfl rfl ?_
    refine v_gK 63 rfl fl11_31_10.r (al 1 rfl hn) (wk1 dy) (by decide) rfl (r := 4) (wc1_4 dy) ?_
    refine v_gK 64 rfl fl11_299_1 (al 4 rfl hn) (wk4 dy) (by decide) rfl (r := 5) (wc4_0 dy) ?_
    refine v_iload_n 65 1 rfl rfl rfl ?_
    have c3 := h.1
    have h := h.2
    refine v_pa (N := 60) 66 rfl (al 5 rfl hn) (wk5 dy) (wn5 dy) (by decide) c3 (y := g 5 x1.toNat) rfl ?_
    refine v_aload_n 67 0 rfl rfl rfl ?_
    refine v_gK 68 rfl fl11_31_10.r (al 1 rfl hn) (wk1 dy) (by decide) rfl (r := 4) (wc1_4 dy) ?_
    refine v_gK 69 rfl fl11_299_1 (al 4 rfl hn) (wk4 dy) (by decide) rfl (r := 5) (wc4_0 dy) ?_
    refine v_iload_n 70 2 rfl rfl rfl ?_
    have c4 := h.1
    have h := h.2
    refine v_pa (N := 60) 71 rfl (al 5 rfl hn) (wk5 dy) (wn5 dy) (by decide) c4 (y := g 5 x2.toNat) rfl ?_
    refine v_callV (st := []) [.ref ((g 5 x1.toNat).toNat), .ref ((g 5 x2.toNat).toNat)] 72 rfl lv11_413_prepareClearing_0 (al 11 rfl hn) (wk11 dy) (by decide) rfl (Nat.le_refl _) (Nat.le_refl _) ?_
    exact h
set_option maxHeartbeats 8000000 in
set_option maxRecDepth 4000 in
theorem bX11_prepareClearing_139 {d n : Nat} {dy : Nat → Shp} {g : Hp} {P : Pst} {x1 : Int} {x2 : Int} (hn : 100 ≤ n) (h : V miX11_prepareClearing (d + 1) 77 [(0, .ref 1), (1, I_ x1), (2, I_ (x2 + 1))] [] n (W0 dy) g 0 0 P) : V miX11_prepareClearing (d + 1) 139 [(0, .ref 1), (1, I_ x1), (2, I_ x2)] [] n (W0 dy) g 0 0 P := by
  refine v_iinc 73 2 [1, 2, 0] rfl rfl (by decide) rfl ?_
  refine v_goto 74 rfl (tgt := 77) rfl ?_
  exact h
theorem wX11_prepareClearing {d n : Nat} {dy : Nat → Shp} {g : Hp} {P : Pst}  (hn : 100 ≤ n) (h : Runs miX0_begin d [.ref 11] n (W0 dy) g (fun v n' S' g' => V miX11_prepareClearing (d + 1) 7 [(0, .ref 1)] (v.toList ++ []) n' S' g' 0 0 P)) : Runs miX11_prepareClearing (d + 1) [.ref 1] n (W0 dy) g P := Runs.of rfl rfl deX11_prepareClearing (Nat.le_of_ble_eq_true rfl) (bX11_prepareClearing_0 hn h)
theorem lv11_81_givenStatus_10 : LkV miX11_givenStatus miX11_trayAt 81 1 10 := ⟨⟨⟨tbG_in (List.mem_append_right _ (List.mem_of_getElem? (i := 267) (by decide +kernel))) rfl, tbG_in (List.mem_append_right _ (List.mem_of_getElem? (i := 1) (by decide +kernel))) rfl, tbG_in (List.mem_append_right _ (List.mem_of_getElem? (i := 264) (by decide +kernel))) rfl⟩, ⟨by decide +kernel, by decide +kernel, by decide +kernel⟩, by decide⟩, tbG_in (List.mem_append_right _ (List.mem_of_getElem? (i := 266) (by decide +kernel))) rfl, RX11, TX11, 13, rfl, tbG_in (List.mem_append_left _ (List.mem_of_getElem? (i := 0) (by decide +kernel))) rfl⟩
theorem lv11_163_givenStatus_10 : LkV miX11_givenStatus miX11_partAt 163 1 10 := ⟨⟨⟨tbG_in (List.mem_append_right _ (List.mem_of_getElem? (i := 600) (by decide +kernel))) rfl, tbG_in (List.mem_append_right _ (List.mem_of_getElem? (i := 1) (by decide +kernel))) rfl, tbG_in (List.mem_append_right _ (List.mem_of_getElem? (i := 597) (by decide +kernel))) rfl⟩, ⟨by decide +kernel, by decide +kernel, by decide +kernel⟩, by decide⟩, tbG_in (List.mem_append_right _ (List.mem_of_getElem? (i := 599) (by decide +kernel))) rfl, RX11, TX11, 13, rfl, tbG_in (List.mem_append_left _ (List.mem_of_getElem? (i := 13) (by decide +kernel))) rfl⟩
theorem lv11_111_givenStatus_8 : LkV miX11_givenStatus miX9_isMissing 111 0 8 := ⟨⟨⟨tbG_in (List.mem_append_right _ (List.mem_of_getElem? (i := 293) (by decide +kernel))) rfl, tbG_in (List.mem_append_right _ (List.mem_of_getElem? (i := 8) (by decide +kernel))) rfl, tbG_in (List.mem_append_right _ (List.mem_of_getElem? (i := 290) (by decide +kernel))) rfl⟩, ⟨by decide +kernel, by decide +kernel, by decide +kernel⟩, by decide⟩, tbG_in (List.mem_append_right _ (List.mem_of_getElem? (i := 291) (by decide +kernel))) rfl, RX9, TX9, 3, rfl, tbG_in (List.mem_append_right _ (List.mem_of_getElem? (i := 292) (by decide +kernel))) rfl⟩
set_option maxHeartbeats 8000000 in
set_option maxRecDepth 4000 in
theorem bX11_givenStatus_0 {d n : Nat} {dy : Nat → Shp} {g : Hp} {P : Pst} {x1 : Int} {x2 : Int} (hn : 100 ≤ n) (h : Runs miX11_trayAt d [.ref 1, I_ x2] n (W0 dy) g (fun v n' S' g' => V miX11_givenStatus (d + 1) 5 [(0, .ref 1), (1, I_ x1), (2, I_ x2)] (v.toList ++ []) n' S' g' 0 0 P)) : V miX11_givenStatus (d + 1) 0 [(0, .ref 1), (1, I_ x1), (2, I_ x2)] [] n (W0 dy) g 0 0 P := by
  refine v_aload_n 0 0 rfl rfl rfl ?_
  refine v_iload_n 1 2 rfl rfl rfl ?_
  refine v_callV (st := []) [I_ x2] 2 rfl lv11_81_givenStatus_10 (al 1 rfl hn) (wk1 dy) (by decide) rfl (Nat.le_refl _) (Nat.le_refl _) ?_
  exact h
set_option maxHeartbeats 8000000 in
set_option maxRecDepth 4000 in
theorem bX11_givenStatus_5 {d n : Nat} {dy : Nat → Shp} {g : Hp} {P : Pst} {x1 : Int} {x2 : Int} {rs0 : Nat} (hn : 100 ≤ n) (h : ((0 < rs0) → Runs miX11_partAt d [.ref 1, I_ x1] n (W0 dy) g (fun v n' S' g' => V miX11_givenStatus (d + 1) 17 [(0, .ref 1), (1, I_ x1), (2, I_ x2), (3, .ref rs0)] (v.toList ++ []) n' S' g' 0 0 P)) ∧ ((rs0 = 0) → P (some (I_ 1)) n (W0 dy) g)) : V miX11_givenStatus (d + 1) 5 [(0, .ref 1), (1, I_ x1), (2, I_ x2)] [.ref rs0] n (W0 dy) g 0 0 P := by
  refine v_astore_n 3 [1, 2, 3, 0] rfl rfl (by decide) rfl ?_
  refine v_aload_n 4 3 rfl rfl rfl ?_
  refine v_ifnonnull 5 rfl (tgt := 12) rfl (fun q1 => ?_) (fun q1 => ?_)
  · have h := h.1 q1
    refine v_aload_n 8 0 rfl rfl rfl ?_
    refine v_iload_n 9 1 rfl rfl rfl ?_
    refine v_callV (st := []) [I_ x1] 10 rfl lv11_163_givenStatus_10 (al 1 rfl hn) (wk1 dy) (by decide) rfl (Nat.le_refl _) (Nat.le_refl _) ?_
    exact h
  · have h := h.2 q1
    refine v_iconst 6 rfl ?_
    exact v_ret (v := some (I_ 1)) 7 rfl (Nat.zero_le _) (Nat.zero_le _) trivial rfl h
set_option maxHeartbeats 8000000 in
set_option maxRecDepth 4000 in
theorem bX11_givenStatus_17 {d n : Nat} {dy : Nat → Shp} {g : Hp} {P : Pst} {x1 : Int} {x2 : Int} {r3 : Nat} {rs0 : Nat} (hn : 100 ≤ n) (h : ((0 < rs0) → (Tr n (W0 dy) r3) ∧ Runs miX9_isMissing d [.ref r3] n (W0 dy) g (fun v n' S' g' => V miX11_givenStatus (d + 1) 26 [(0, .ref 1), (1, I_ x1), (2, I_ x2), (3, .ref r3)] (v.toList ++ []) n' S' g' 0 0 P)) ∧ ((rs0 = 0) → P (some (I_ 2)) n (W0 dy) g)) : V miX11_givenStatus (d + 1) 17 [(0, .ref 1), (1, I_ x1), (2, I_ x2), (3, .ref r3)] [.ref rs0] n (W0 dy) g 0 0 P := by
  refine v_ifnonnull 11 rfl (tgt := 22) rfl (fun q1 => ?_) (fun q1 => ?_)
  · have h := h.1 q1
    refine v_aload_n 14 3 rfl rfl rfl ?_
    have c2 := h.1
    have h := h.2
    refine v_callV (st := []) [] 15 rfl lv11_111_givenStatus_8 c2.1 c2.2.1 (by decide) rfl (Nat.le_refl _) (Nat.le_refl _) ?_
    exact h
  · have h := h.2 q1
    refine v_iconst 12 rfl ?_
    exact v_ret (v := some (I_ 2)) 13 rfl (Nat.zero_le _) (Nat.zero_le _) trivial rfl h
set_option maxHeartbeats 8000000 in
set_option maxRecDepth 4000 in
theorem bX11_givenStatus_26 {d n : Nat} {dy : Nat → Shp} {g : Hp} {P : Pst} {x1 : Int} {x2 : Int} {r3 : Nat} {xs0 : Int} (hn : 100 ≤ n) (h : (i3 xs0) ∧ ((xs0 = 0) → P (some (I_ 0)) n (W0 dy) g) ∧ ((xs0 ≠ 0) → P (some (I_ 3)) n (W0 dy) g)) : V miX11_givenStatus (d + 1) 26 [(0, .ref 1), (1, I_ x1), (2, I_ x2), (3, .ref r3)] [I_ xs0] n (W0 dy) g 0 0 P := by
  have c1 := h.1
  have h := h.2
  refine v_if_eq 16 rfl (tgt := 33) rfl c1 (fun q2 => ?_) (fun q2 => ?_)
  · have h := h.1 q2
    refine v_iconst 19 rfl ?_
    exact v_ret (v := some (I_ 0)) 20 rfl (Nat.zero_le _) (Nat.zero_le _) trivial rfl h
  · have h := h.2 q2
    refine v_iconst 17 rfl ?_
    refine v_goto 18 rfl (tgt := 34) rfl ?_
    exact v_ret (v := some (I_ 3)) 20 rfl (Nat.zero_le _) (Nat.zero_le _) trivial rfl h
theorem wX11_givenStatus {d n : Nat} {dy : Nat → Shp} {g : Hp} {P : Pst} {x1 : Int} {x2 : Int} (hn : 100 ≤ n) (h : Runs miX11_trayAt d [.ref 1, I_ x2] n (W0 dy) g (fun v n' S' g' => V miX11_givenStatus (d + 1) 5 [(0, .ref 1), (1, I_ x1), (2, I_ x2)] (v.toList ++ []) n' S' g' 0 0 P)) : Runs miX11_givenStatus (d + 1) [.ref 1, I_ x1, I_ x2] n (W0 dy) g P := Runs.of rfl rfl deX11_givenStatus (Nat.le_of_ble_eq_true rfl) (bX11_givenStatus_0 hn h)
theorem ls11_182_shapeStatus : LkS miX11_shapeStatus miX11_asRod 182 1 := ⟨⟨⟨tbG_in (List.mem_append_right _ (List.mem_of_getElem? (i := 620) (by decide +kernel))) rfl, tbG_in (List.mem_append_right _ (List.mem_of_getElem? (i := 1) (by decide +kernel))) rfl, tbG_in (List.mem_append_right _ (List.mem_of_getElem? (i := 618) (by decide +kernel))) rfl⟩, ⟨by decide +kernel, by decide +kernel, by decide +kernel⟩, by decide⟩, tbG_in (List.mem_append_right _ (List.mem_of_getElem? (i := 619) (by decide +kernel))) rfl⟩
theorem lv11_417_shapeStatus_8 : LkV miX11_shapeStatus miX9_canBeParted 417 0 8 := ⟨⟨⟨tbG_in (List.mem_append_right _ (List.mem_of_getElem? (i := 887) (by decide +kernel))) rfl, tbG_in (List.mem_append_right _ (List.mem_of_getElem? (i := 8) (by decide +kernel))) rfl, tbG_in (List.mem_append_right _ (List.mem_of_getElem? (i := 884) (by decide +kernel))) rfl⟩, ⟨by decide +kernel, by decide +kernel, by decide +kernel⟩, by decide⟩, tbG_in (List.mem_append_right _ (List.mem_of_getElem? (i := 885) (by decide +kernel))) rfl, RX9, TX9, 3, rfl, tbG_in (List.mem_append_right _ (List.mem_of_getElem? (i := 886) (by decide +kernel))) rfl⟩
theorem lv11_227_shapeStatus_1 : LkV miX11_shapeStatus miX1_gather 227 1 1 := ⟨⟨⟨tbG_in (List.mem_append_right _ (List.mem_of_getElem? (i := 682) (by decide +kernel))) rfl, tbG_in (List.mem_append_right _ (List.mem_of_getElem? (i := 2) (by decide +kernel))) rfl, tbG_in (List.mem_append_right _ (List.mem_of_getElem? (i := 679) (by decide +kernel))) rfl⟩, ⟨by decide +kernel, by decide +kernel, by decide +kernel⟩, by decide⟩, tbG_in (List.mem_append_right _ (List.mem_of_getElem? (i := 680) (by decide +kernel))) rfl, RX1, TX1, 3, rfl, tbG_in (List.mem_append_right _ (List.mem_of_getElem? (i := 681) (by decide +kernel))) rfl⟩
theorem lv11_420_shapeStatus_1 : LkV miX11_shapeStatus miX1_isShape 420 0 1 := ⟨⟨⟨tbG_in (List.mem_append_right _ (List.mem_of_getElem? (i := 893) (by decide +kernel))) rfl, tbG_in (List.mem_append_right _ (List.mem_of_getElem? (i := 2) (by decide +kernel))) rfl, tbG_in (List.mem_append_right _ (List.mem_of_getElem? (i := 890) (by decide +kernel))) rfl⟩, ⟨by decide +kernel, by decide +kernel, by decide +kernel⟩, by decide⟩, tbG_in (List.mem_append_right _ (List.mem_of_getElem? (i := 891) (by decide +kernel))) rfl, RX1, TX1, 3, rfl, tbG_in (List.mem_append_right _ (List.mem_of_getElem? (i := 892) (by decide +kernel))) rfl⟩
set_option maxHeartbeats 8000000 in
set_option maxRecDepth 4000 in
theorem bX11_shapeStatus_0 {d n : Nat} {dy : Nat → Shp} {g : Hp} {P : Pst} {r1 : Nat} {r2 : Nat} (hn : 100 ≤ n) (h : Runs miX11_asRod d [.ref r1] n (W0 dy) g (fun v n' S' g' => V miX11_shapeStatus (d + 1) 4 [(0, .ref 1), (1, .ref r1), (2, .ref r2)] (v.toList ++ []) n' S' g' 0 0 P)) : V miX11_shapeStatus (d + 1) 0 [(0, .ref 1), (1, .ref r1), (2, .ref r2)] [] n (W0 dy) g 0 0 P := by
  refine v_aload_n 0 1 rfl rfl rfl ?_
  refine v_callS (st := []) [.ref r1] 1 rfl ls11_182_shapeStatus rfl (Nat.lt_of_lt_of_le (by decide) hn) (Nat.le_refl _) (Nat.le_refl _) ?_
  exact h
set_option maxHeartbeats 8000000 in
set_option maxRecDepth 4000 in
theorem bX11_shapeStatus_4 {d n : Nat} {dy : Nat → Shp} {g : Hp} {P : Pst} {r1 : Nat} {r2 : Nat} {rs0 : Nat} (hn : 100 ≤ n) (h : ((0 < rs0) → ((r2 = 0) → P (some (I_ 7)) n (W0 dy) g) ∧ ((0 < r2) → (Tr n (W0 dy) r2) ∧ Runs miX9_canBeParted d [.ref r2] n (W0 dy) g (fun v n' S' g' => V miX11_shapeStatus (d + 1) 17 [(0, .ref 1), (1, .ref r1), (2, .ref r2)] (v.toList ++ []) n' S' g' 0 0 P))) ∧ ((rs0 = 0) → P (some (I_ 5)) n (W0 dy) g)) : V miX11_shapeStatus (d + 1) 4 [(0, .ref 1), (1, .ref r1), (2, .ref r2)] [.ref rs0] n (W0 dy) g 0 0 P := by
  refine v_ifnonnull 2 rfl (tgt := 9) rfl (fun q1 => ?_) (fun q1 => ?_)
  · have h := h.1 q1
    refine v_aload_n 5 2 rfl rfl rfl ?_
    refine v_ifnull 6 rfl (tgt := 20) rfl (fun q2 => ?_) (fun q2 => ?_)
    · have h := h.1 q2
      refine v_bipush 10 rfl (by decide) ?_
      exact v_ret (v := some (I_ 7)) 11 rfl (Nat.zero_le _) (Nat.zero_le _) trivial rfl h
    · have h := h.2 q2
      refine v_aload_n 7 2 rfl rfl rfl ?_
      have c3 := h.1
      have h := h.2
      refine v_callV (st := []) [] 8 rfl lv11_417_shapeStatus_8 c3.1 c3.2.1 (by decide) rfl (Nat.le_refl _) (Nat.le_refl _) ?_
      exact h
  · have h := h.2 q1
    refine v_iconst 3 rfl ?_
    exact v_ret (v := some (I_ 5)) 4 rfl (Nat.zero_le _) (Nat.zero_le _) trivial rfl h
set_option maxHeartbeats 8000000 in
set_option maxRecDepth 4000 in
theorem bX11_shapeStatus_17 {d n : Nat} {dy : Nat → Shp} {g : Hp} {P : Pst} {r1 : Nat} {r2 : Nat} {xs0 : Int} (hn : 100 ≤ n) (h : (i3 xs0) ∧ ((xs0 ≠ 0) → (Pt n (W0 dy) r1) ∧ ((((g r1 3).toNat) = 0) → Runs miX1_gather d [.ref 4, .ref r1] n (W0 dy) g (fun v n' S' g' => V miX11_shapeStatus (d + 1) 41 [(0, .ref 1), (1, .ref r1), (2, .ref r2)] (v.toList ++ []) n' S' g' 0 0 P)) ∧ ((0 < ((g r1 3).toNat)) → P (some (I_ 8)) n (W0 dy) g)) ∧ ((xs0 = 0) → P (some (I_ 7)) n (W0 dy) g)) : V miX11_shapeStatus (d + 1) 17 [(0, .ref 1), (1, .ref r1), (2, .ref r2)] [I_ xs0] n (W0 dy) g 0 0 P := by
  have c1 := h.1
  have h := h.2
  refine v_if_ne 9 rfl (tgt := 23) rfl c1 (fun q2 => ?_) (fun q2 => ?_)
  · have h := h.1 q2
    refine v_aload_n 12 1 rfl rfl rfl ?_
    have c3 := h.1
    have h := h.2
    refine v_pR 13 rfl ⟨fl11_196_3.r, fl11_196_5.r, fl11_196_9.r⟩ c3 ⟨rfl, rfl, rfl⟩ (x := g r1 3) rfl ?_
    refine v_ifnull 14 rfl (tgt := 33) rfl (fun q4 => ?_) (fun q4 => ?_)
    · have h := h.1 q4
      refine v_aload_n 17 0 rfl rfl rfl ?_
      refine v_gK 18 rfl fl11_31_10.r (al 1 rfl hn) (wk1 dy) (by decide) rfl (r := 4) (wc1_4 dy) ?_
      refine v_aload_n 19 1 rfl rfl rfl ?_
      refine v_callV (st := []) [.ref r1] 20 rfl lv11_227_shapeStatus_1 (al 4 rfl hn) (wk4 dy) (by decide) rfl (Nat.le_refl _) (Nat.le_refl _) ?_
      exact h
    · have h := h.2 q4
      refine v_bipush 15 rfl (by decide) ?_
      exact v_ret (v := some (I_ 8)) 16 rfl (Nat.zero_le _) (Nat.zero_le _) trivial rfl h
  · have h := h.2 q2
    refine v_bipush 10 rfl (by decide) ?_
    exact v_ret (v := some (I_ 7)) 11 rfl (Nat.zero_le _) (Nat.zero_le _) trivial rfl h
set_option maxHeartbeats 8000000 in
set_option maxRecDepth 4000 in
theorem bX11_shapeStatus_41 {d n : Nat} {dy : Nat → Shp} {g : Hp} {P : Pst} {r1 : Nat} {r2 : Nat} (hn : 100 ≤ n) (h : Runs miX1_isShape d [.ref 4] n (W0 dy) g (fun v n' S' g' => V miX11_shapeStatus (d + 1) 48 [(0, .ref 1), (1, .ref r1), (2, .ref r2)] (v.toList ++ []) n' S' g' 0 0 P)) : V miX11_shapeStatus (d + 1) 41 [(0, .ref 1), (1, .ref r1), (2, .ref r2)] [] n (W0 dy) g 0 0 P := by
  refine v_aload_n 21 0 rfl rfl rfl ?_
  refine v_gK 22 rfl fl11_31_10.r (al 1 rfl hn) (wk1 dy) (by decide) rfl (r := 4) (wc1_4 dy) ?_
  refine v_callV (st := []) [] 23 rfl lv11_420_shapeStatus_1 (al 4 rfl hn) (wk4 dy) (by decide) rfl (Nat.le_refl _) (Nat.le_refl _) ?_
  exact h
set_option maxHeartbeats 8000000 in
set_option maxRecDepth 4000 in
theorem bX11_shapeStatus_48 {d n : Nat} {dy : Nat → Shp} {g : Hp} {P : Pst} {r1 : Nat} {r2 : Nat} {xs0 : Int} (hn : 100 ≤ n) (h : (i3 xs0) ∧ ((xs0 = 0) → P (some (I_ 9)) n (W0 dy) g) ∧ ((xs0 ≠ 0) → P (some (I_ 0)) n (W0 dy) g)) : V miX11_shapeStatus (d + 1) 48 [(0, .ref 1), (1, .ref r1), (2, .ref r2)] [I_ xs0] n (W0 dy) g 0 0 P := by
  have c1 := h.1
  have h := h.2
  refine v_if_eq 24 rfl (tgt := 55) rfl c1 (fun q2 => ?_) (fun q2 => ?_)
  · have h := h.1 q2
    refine v_bipush 27 rfl (by decide) ?_
    exact v_ret (v := some (I_ 9)) 28 rfl (Nat.zero_le _) (Nat.zero_le _) trivial rfl h
  · have h := h.2 q2
    refine v_iconst 25 rfl ?_
    refine v_goto 26 rfl (tgt := 57) rfl ?_
    exact v_ret (v := some (I_ 0)) 28 rfl (Nat.zero_le _) (Nat.zero_le _) trivial rfl h
theorem wX11_shapeStatus {d n : Nat} {dy : Nat → Shp} {g : Hp} {P : Pst} {r1 : Nat} {r2 : Nat} (hn : 100 ≤ n) (h : Runs miX11_asRod d [.ref r1] n (W0 dy) g (fun v n' S' g' => V miX11_shapeStatus (d + 1) 4 [(0, .ref 1), (1, .ref r1), (2, .ref r2)] (v.toList ++ []) n' S' g' 0 0 P)) : Runs miX11_shapeStatus (d + 1) [.ref 1, .ref r1, .ref r2] n (W0 dy) g P := Runs.of rfl rfl deX11_shapeStatus (Nat.le_of_ble_eq_true rfl) (bX11_shapeStatus_0 hn h)
theorem ls11_182_waysFound : LkS miX11_waysFound miX11_asRod 182 1 := ⟨⟨⟨tbG_in (List.mem_append_right _ (List.mem_of_getElem? (i := 620) (by decide +kernel))) rfl, tbG_in (List.mem_append_right _ (List.mem_of_getElem? (i := 1) (by decide +kernel))) rfl, tbG_in (List.mem_append_right _ (List.mem_of_getElem? (i := 618) (by decide +kernel))) rfl⟩, ⟨by decide +kernel, by decide +kernel, by decide +kernel⟩, by decide⟩, tbG_in (List.mem_append_right _ (List.mem_of_getElem? (i := 619) (by decide +kernel))) rfl⟩
theorem lv11_423_waysFound_2 : LkV miX11_waysFound miX3_count 423 2 2 := ⟨⟨⟨tbG_in (List.mem_append_right _ (List.mem_of_getElem? (i := 903) (by decide +kernel))) rfl, tbG_in (List.mem_append_right _ (List.mem_of_getElem? (i := 6) (by decide +kernel))) rfl, tbG_in (List.mem_append_right _ (List.mem_of_getElem? (i := 900) (by decide +kernel))) rfl⟩, ⟨by decide +kernel, by decide +kernel, by decide +kernel⟩, by decide⟩, tbG_in (List.mem_append_right _ (List.mem_of_getElem? (i := 901) (by decide +kernel))) rfl, RX3, TX3, 11, rfl, tbG_in (List.mem_append_right _ (List.mem_of_getElem? (i := 902) (by decide +kernel))) rfl⟩
set_option maxHeartbeats 8000000 in
set_option maxRecDepth 4000 in
theorem bX11_waysFound_0 {d n : Nat} {dy : Nat → Shp} {g : Hp} {P : Pst} {r1 : Nat} {r2 : Nat} (hn : 100 ≤ n) (h : Runs miX11_asRod d [.ref r1] n (W0 dy) g (fun v n' S' g' => V miX11_waysFound (d + 1) 4 [(0, .ref 1), (1, .ref r1), (2, .ref r2)] (v.toList ++ []) n' S' g' 0 0 P)) : V miX11_waysFound (d + 1) 0 [(0, .ref 1), (1, .ref r1), (2, .ref r2)] [] n (W0 dy) g 0 0 P := by
  refine v_aload_n 0 1 rfl rfl rfl ?_
  refine v_callS (st := []) [.ref r1] 1 rfl ls11_182_waysFound rfl (Nat.lt_of_lt_of_le (by decide) hn) (Nat.le_refl _) (Nat.le_refl _) ?_
  exact h
set_option maxHeartbeats 8000000 in
set_option maxRecDepth 4000 in
theorem bX11_waysFound_4 {d n : Nat} {dy : Nat → Shp} {g : Hp} {P : Pst} {r1 : Nat} {r2 : Nat} {rs0 : Nat} (hn : 100 ≤ n) (h : ((rs0 = 0) → P (some (I_ 0)) n (W0 dy) g) ∧ ((0 < rs0) → ((0 < r2) → Runs miX3_count d [.ref 18, .ref rs0, .ref r2] n (W0 dy) g (fun v n' S' g' => V miX11_waysFound (d + 1) 24 [(0, .ref 1), (1, .ref r1), (2, .ref r2), (3, .ref rs0)] (v.toList ++ []) n' S' g' 0 0 P)) ∧ ((r2 = 0) → P (some (I_ 0)) n (W0 dy) g))) : V miX11_waysFound (d + 1) 4 [(0, .ref 1), (1, .ref r1), (2, .ref r2)] [.ref rs0] n (W0 dy) g 0 0 P := by
  refine v_astore_n 2 [1, 2, 3, 0] rfl rfl (by decide) rfl ?_
  refine v_aload_n 3 3 rfl rfl rfl ?_
  refine v_ifnull 4 rfl (tgt := 13) rfl (fun q1 => ?_) (fun q1 => ?_)
  · have h := h.1 q1
    refine v_iconst 7 rfl ?_
    exact v_ret (v := some (I_ 0)) 8 rfl (Nat.zero_le _) (Nat.zero_le _) trivial rfl h
  · have h := h.2 q1
    refine v_aload_n 5 2 rfl rfl rfl ?_
    refine v_ifnonnull 6 rfl (tgt := 15) rfl (fun q2 => ?_) (fun q2 => ?_)
    · have h := h.1 q2
      refine v_aload_n 9 0 rfl rfl rfl ?_
      refine v_gK 10 rfl fl11_62_10.r (al 1 rfl hn) (wk1 dy) (by decide) rfl (r := 18) (wc1_9 dy) ?_
      refine v_aload_n 11 3 rfl rfl rfl ?_
      refine v_aload_n 12 2 rfl rfl rfl ?_
      refine v_callV (st := []) [.ref rs0, .ref r2] 13 rfl lv11_423_waysFound_2 (al 18 rfl hn) (wk18 dy) (by decide) rfl (Nat.le_refl _) (Nat.le_refl _) ?_
      exact h
    · have h := h.2 q2
      refine v_iconst 7 rfl ?_
      exact v_ret (v := some (I_ 0)) 8 rfl (Nat.zero_le _) (Nat.zero_le _) trivial rfl h
set_option maxHeartbeats 8000000 in
set_option maxRecDepth 4000 in
theorem bX11_waysFound_24 {d n : Nat} {dy : Nat → Shp} {g : Hp} {P : Pst} {r1 : Nat} {r2 : Nat} {r3 : Nat} {xs0 : Int} (hn : 100 ≤ n) (h : P (some (I_ xs0)) n (W0 dy) g) : V miX11_waysFound (d + 1) 24 [(0, .ref 1), (1, .ref r1), (2, .ref r2), (3, .ref r3)] [I_ xs0] n (W0 dy) g 0 0 P := by
  exact v_ret (v := some (I_ xs0)) 14 rfl (Nat.zero_le _) (Nat.zero_le _) trivial rfl h
theorem wX11_waysFound {d n : Nat} {dy : Nat → Shp} {g : Hp} {P : Pst} {r1 : Nat} {r2 : Nat} (hn : 100 ≤ n) (h : Runs miX11_asRod d [.ref r1] n (W0 dy) g (fun v n' S' g' => V miX11_waysFound (d + 1) 4 [(0, .ref 1), (1, .ref r1), (2, .ref r2)] (v.toList ++ []) n' S' g' 0 0 P)) : Runs miX11_waysFound (d + 1) [.ref 1, .ref r1, .ref r2] n (W0 dy) g P := Runs.of rfl rfl deX11_waysFound (Nat.le_of_ble_eq_true rfl) (bX11_waysFound_0 hn h)
theorem ls11_182_fewestStatus : LkS miX11_fewestStatus miX11_asRod 182 1 := ⟨⟨⟨tbG_in (List.mem_append_right _ (List.mem_of_getElem? (i := 620) (by decide +kernel))) rfl, tbG_in (List.mem_append_right _ (List.mem_of_getElem? (i := 1) (by decide +kernel))) rfl, tbG_in (List.mem_append_right _ (List.mem_of_getElem? (i := 618) (by decide +kernel))) rfl⟩, ⟨by decide +kernel, by decide +kernel, by decide +kernel⟩, by decide⟩, tbG_in (List.mem_append_right _ (List.mem_of_getElem? (i := 619) (by decide +kernel))) rfl⟩
theorem lv11_227_fewestStatus_1 : LkV miX11_fewestStatus miX1_gather 227 1 1 := ⟨⟨⟨tbG_in (List.mem_append_right _ (List.mem_of_getElem? (i := 682) (by decide +kernel))) rfl, tbG_in (List.mem_append_right _ (List.mem_of_getElem? (i := 2) (by decide +kernel))) rfl, tbG_in (List.mem_append_right _ (List.mem_of_getElem? (i := 679) (by decide +kernel))) rfl⟩, ⟨by decide +kernel, by decide +kernel, by decide +kernel⟩, by decide⟩, tbG_in (List.mem_append_right _ (List.mem_of_getElem? (i := 680) (by decide +kernel))) rfl, RX1, TX1, 3, rfl, tbG_in (List.mem_append_right _ (List.mem_of_getElem? (i := 681) (by decide +kernel))) rfl⟩
theorem lv11_242_fewestStatus_1 : LkV miX11_fewestStatus miX1_notLevel 242 0 1 := ⟨⟨⟨tbG_in (List.mem_append_right _ (List.mem_of_getElem? (i := 718) (by decide +kernel))) rfl, tbG_in (List.mem_append_right _ (List.mem_of_getElem? (i := 2) (by decide +kernel))) rfl, tbG_in (List.mem_append_right _ (List.mem_of_getElem? (i := 715) (by decide +kernel))) rfl⟩, ⟨by decide +kernel, by decide +kernel, by decide +kernel⟩, by decide⟩, tbG_in (List.mem_append_right _ (List.mem_of_getElem? (i := 716) (by decide +kernel))) rfl, RX1, TX1, 3, rfl, tbG_in (List.mem_append_right _ (List.mem_of_getElem? (i := 717) (by decide +kernel))) rfl⟩
theorem lv11_332_fewestStatus_1 : LkV miX11_fewestStatus miX1_countOf 332 1 1 := ⟨⟨⟨tbG_in (List.mem_append_right _ (List.mem_of_getElem? (i := 970) (by decide +kernel))) rfl, tbG_in (List.mem_append_right _ (List.mem_of_getElem? (i := 2) (by decide +kernel))) rfl, tbG_in (List.mem_append_right _ (List.mem_of_getElem? (i := 967) (by decide +kernel))) rfl⟩, ⟨by decide +kernel, by decide +kernel, by decide +kernel⟩, by decide⟩, tbG_in (List.mem_append_right _ (List.mem_of_getElem? (i := 968) (by decide +kernel))) rfl, RX1, TX1, 3, rfl, tbG_in (List.mem_append_right _ (List.mem_of_getElem? (i := 969) (by decide +kernel))) rfl⟩
set_option maxHeartbeats 8000000 in
set_option maxRecDepth 4000 in
theorem bX11_fewestStatus_0 {d n : Nat} {dy : Nat → Shp} {g : Hp} {P : Pst} {r1 : Nat} {x2 : Int} (hn : 100 ≤ n) (h : ((0 < r1) → Runs miX11_asRod d [.ref r1] n (W0 dy) g (fun v n' S' g' => V miX11_fewestStatus (d + 1) 10 [(0, .ref 1), (1, .ref r1), (2, I_ x2)] (v.toList ++ []) n' S' g' 0 0 P)) ∧ ((r1 = 0) → P (some (I_ 2)) n (W0 dy) g)) : V miX11_fewestStatus (d + 1) 0 [(0, .ref 1), (1, .ref r1), (2, I_ x2)] [] n (W0 dy) g 0 0 P := by
  refine v_aload_n 0 1 rfl rfl rfl ?_
  refine v_ifnonnull 1 rfl (tgt := 6) rfl (fun q1 => ?_) (fun q1 => ?_)
  · have h := h.1 q1
    refine v_aload_n 4 1 rfl rfl rfl ?_
    refine v_callS (st := []) [.ref r1] 5 rfl ls11_182_fewestStatus rfl (Nat.lt_of_lt_of_le (by decide) hn) (Nat.le_refl _) (Nat.le_refl _) ?_
    exact h
  · have h := h.2 q1
    refine v_iconst 2 rfl ?_
    exact v_ret (v := some (I_ 2)) 3 rfl (Nat.zero_le _) (Nat.zero_le _) trivial rfl h
set_option maxHeartbeats 8000000 in
set_option maxRecDepth 4000 in
theorem bX11_fewestStatus_10 {d n : Nat} {dy : Nat → Shp} {g : Hp} {P : Pst} {r1 : Nat} {x2 : Int} {rs0 : Nat} (hn : 100 ≤ n) (h : ((0 < rs0) → (i3 x2) ∧ ((x2 < 0) → P (some (I_ 7)) n (W0 dy) g) ∧ ((0 ≤ x2) → ((x2 ≤ 14) → (Pt n (W0 dy) r1) ∧ ((((g r1 3).toNat) = 0) → Runs miX1_gather d [.ref 4, .ref r1] n (W0 dy) g (fun v n' S' g' => V miX11_fewestStatus (d + 1) 46 [(0, .ref 1), (1, .ref r1), (2, I_ x2)] (v.toList ++ []) n' S' g' 0 0 P)) ∧ ((0 < ((g r1 3).toNat)) → P (some (I_ 8)) n (W0 dy) g)) ∧ ((14 < x2) → P (some (I_ 7)) n (W0 dy) g))) ∧ ((rs0 = 0) → P (some (I_ 5)) n (W0 dy) g)) : V miX11_fewestStatus (d + 1) 10 [(0, .ref 1), (1, .ref r1), (2, I_ x2)] [.ref rs0] n (W0 dy) g 0 0 P := by
  refine v_ifnonnull 6 rfl (tgt := 15) rfl (fun q1 => ?_) (fun q1 => ?_)
  · have h := h.1 q1
    refine v_iload_n 9 2 rfl rfl rfl ?_
    have c2 := h.1
    have h := h.2
    refine v_if_lt 10 rfl (tgt := 25) rfl c2 (fun q3 => ?_) (fun q3 => ?_)
    · have h := h.1 q3
      refine v_bipush 14 rfl (by decide) ?_
      exact v_ret (v := some (I_ 7)) 15 rfl (Nat.zero_le _) (Nat.zero_le _) trivial rfl h
    · have h := h.2 q3
      refine v_iload_n 11 2 rfl rfl rfl ?_
      refine v_bipush 12 rfl (by decide) ?_
      refine v_icmp_le 13 rfl (tgt := 28) rfl c2 (by decide) (fun q4 => ?_) (fun q4 => ?_)
      · have h := h.1 q4
        refine v_aload_n 16 1 rfl rfl rfl ?_
        have c5 := h.1
        have h := h.2
        refine v_pR 17 rfl ⟨fl11_196_3.r, fl11_196_5.r, fl11_196_9.r⟩ c5 ⟨rfl, rfl, rfl⟩ (x := g r1 3) rfl ?_
        refine v_ifnull 18 rfl (tgt := 38) rfl (fun q6 => ?_) (fun q6 => ?_)
        · have h := h.1 q6
          refine v_aload_n 21 0 rfl rfl rfl ?_
          refine v_gK 22 rfl fl11_31_10.r (al 1 rfl hn) (wk1 dy) (by decide) rfl (r := 4) (wc1_4 dy) ?_
          refine v_aload_n 23 1 rfl rfl rfl ?_
          refine v_callV (st := []) [.ref r1] 24 rfl lv11_227_fewestStatus_1 (al 4 rfl hn) (wk4 dy) (by decide) rfl (Nat.le_refl _) (Nat.le_refl _) ?_
          exact h
        · have h := h.2 q6
          refine v_bipush 19 rfl (by decide) ?_
          exact v_ret (v := some (I_ 8)) 20 rfl (Nat.zero_le _) (Nat.zero_le _) trivial rfl h
      · have h := h.2 q4
        refine v_bipush 14 rfl (by decide) ?_
        exact v_ret (v := some (I_ 7)) 15 rfl (Nat.zero_le _) (Nat.zero_le _) trivial rfl h
  · have h := h.2 q1
    refine v_iconst 7 rfl ?_
    exact v_ret (v := some (I_ 5)) 8 rfl (Nat.zero_le _) (Nat.zero_le _) trivial rfl h
set_option maxHeartbeats 8000000 in
set_option maxRecDepth 4000 in
theorem bX11_fewestStatus_46 {d n : Nat} {dy : Nat → Shp} {g : Hp} {P : Pst} {r1 : Nat} {x2 : Int} (hn : 100 ≤ n) (h : Runs miX1_notLevel d [.ref 4] n (W0 dy) g (fun v n' S' g' => V miX11_fewestStatus (d + 1) 53 [(0, .ref 1), (1, .ref r1), (2, I_ x2)] (v.toList ++ []) n' S' g' 0 0 P)) : V miX11_fewestStatus (d + 1) 46 [(0, .ref 1), (1, .ref r1), (2, I_ x2)] [] n (W0 dy) g 0 0 P := by
  refine v_aload_n 25 0 rfl rfl rfl ?_
  refine v_gK 26 rfl fl11_31_10.r (al 1 rfl hn) (wk1 dy) (by decide) rfl (r := 4) (wc1_4 dy) ?_
  refine v_callV (st := []) [] 27 rfl lv11_242_fewestStatus_1 (al 4 rfl hn) (wk4 dy) (by decide) rfl (Nat.le_refl _) (Nat.le_refl _) ?_
  exact h
set_option maxHeartbeats 8000000 in
set_option maxRecDepth 4000 in
theorem bX11_fewestStatus_53 {d n : Nat} {dy : Nat → Shp} {g : Hp} {P : Pst} {r1 : Nat} {x2 : Int} {xs0 : Int} (hn : 100 ≤ n) (h : (i3 xs0) ∧ ((xs0 ≤ 0) → Runs miX1_countOf d [.ref 4, I_ 1] n (W0 dy) g (fun v n' S' g' => V miX11_fewestStatus (d + 1) 67 [(0, .ref 1), (1, .ref r1), (2, I_ x2)] (v.toList ++ []) n' S' g' 0 0 P)) ∧ ((0 < xs0) → P (some (I_ 9)) n (W0 dy) g)) : V miX11_fewestStatus (d + 1) 53 [(0, .ref 1), (1, .ref r1), (2, I_ x2)] [I_ xs0] n (W0 dy) g 0 0 P := by
  have c1 := h.1
  have h := h.2
  refine v_if_le 28 rfl (tgt := 59) rfl c1 (fun q2 => ?_) (fun q2 => ?_)
  · have h := h.1 q2
    refine v_aload_n 31 0 rfl rfl rfl ?_
    refine v_gK 32 rfl fl11_31_10.r (al 1 rfl hn) (wk1 dy) (by decide) rfl (r := 4) (wc1_4 dy) ?_
    refine v_iconst 33 rfl ?_
    refine v_callV (st := []) [I_ 1] 34 rfl lv11_332_fewestStatus_1 (al 4 rfl hn) (wk4 dy) (by decide) rfl (Nat.le_refl _) (Nat.le_refl _) ?_
    exact h
  · have h := h.2 q2
    refine v_bipush 29 rfl (by decide) ?_
    exact v_ret (v := some (I_ 9)) 30 rfl (Nat.zero_le _) (Nat.zero_le _) trivial rfl h
set_option maxHeartbeats 8000000 in
set_option maxRecDepth 4000 in
theorem bX11_fewestStatus_67 {d n : Nat} {dy : Nat → Shp} {g : Hp} {P : Pst} {r1 : Nat} {x2 : Int} {xs0 : Int} (hn : 100 ≤ n) (h : (i3 xs0) ∧ ((xs0 ≤ 14) → P (some (I_ 0)) n (W0 dy) g) ∧ ((14 < xs0) → P (some (I_ 10)) n (W0 dy) g)) : V miX11_fewestStatus (d + 1) 67 [(0, .ref 1), (1, .ref r1), (2, I_ x2)] [I_ xs0] n (W0 dy) g 0 0 P := by
  refine v_bipush 35 rfl (by decide) ?_
  have c1 := h.1
  have h := h.2
  refine v_icmp_le 36 rfl (tgt := 77) rfl c1 (by decide) (fun q2 => ?_) (fun q2 => ?_)
  · have h := h.1 q2
    refine v_iconst 39 rfl ?_
    exact v_ret (v := some (I_ 0)) 40 rfl (Nat.zero_le _) (Nat.zero_le _) trivial rfl h
  · have h := h.2 q2
    refine v_bipush 37 rfl (by decide) ?_
    refine v_goto 38 rfl (tgt := 78) rfl ?_
    exact v_ret (v := some (I_ 10)) 40 rfl (Nat.zero_le _) (Nat.zero_le _) trivial rfl h
theorem wX11_fewestStatus {d n : Nat} {dy : Nat → Shp} {g : Hp} {P : Pst} {r1 : Nat} {x2 : Int} (hn : 100 ≤ n) (h : ((0 < r1) → Runs miX11_asRod d [.ref r1] n (W0 dy) g (fun v n' S' g' => V miX11_fewestStatus (d + 1) 10 [(0, .ref 1), (1, .ref r1), (2, I_ x2)] (v.toList ++ []) n' S' g' 0 0 P)) ∧ ((r1 = 0) → P (some (I_ 2)) n (W0 dy) g)) : Runs miX11_fewestStatus (d + 1) [.ref 1, .ref r1, I_ x2] n (W0 dy) g P := Runs.of rfl rfl deX11_fewestStatus (Nat.le_of_ble_eq_true rfl) (bX11_fewestStatus_0 hn h)
theorem lv11_406_suspectAllWeights_1 : LkV miX11_suspectAllWeights miX1_holds 406 1 1 := ⟨⟨⟨tbG_in (List.mem_append_right _ (List.mem_of_getElem? (i := 841) (by decide +kernel))) rfl, tbG_in (List.mem_append_right _ (List.mem_of_getElem? (i := 2) (by decide +kernel))) rfl, tbG_in (List.mem_append_right _ (List.mem_of_getElem? (i := 838) (by decide +kernel))) rfl⟩, ⟨by decide +kernel, by decide +kernel, by decide +kernel⟩, by decide⟩, tbG_in (List.mem_append_right _ (List.mem_of_getElem? (i := 839) (by decide +kernel))) rfl, RX1, TX1, 3, rfl, tbG_in (List.mem_append_right _ (List.mem_of_getElem? (i := 840) (by decide +kernel))) rfl⟩
set_option maxHeartbeats 8000000 in
set_option maxRecDepth 4000 in
theorem bX11_suspectAllWeights_0 {d n : Nat} {dy : Nat → Shp} {g : Hp} {P : Pst}  (hn : 100 ≤ n) (h : V miX11_suspectAllWeights (d + 1) 7 [(0, .ref 1), (1, I_ 0)] [] n (W0 dy) (up2 g 1 11 0) 0 0 P) : V miX11_suspectAllWeights (d + 1) 0 [(0, .ref 1)] [] n (W0 dy) g 0 0 P := by
  refine v_aload_n 0 0 rfl rfl rfl ?_
  refine v_iconst 1 rfl ?_
  refine v_putI 2 rfl fl11_70_10 (al 1 rfl hn) (wk1 dy) (by decide) rfl (wc1_11 dy) (by decide) ?_
  refine v_iconst 3 rfl ?_
  refine v_istore_n 4 [1, 0] rfl rfl (by decide) rfl ?_
  exact h
set_option maxHeartbeats 8000000 in
set_option maxRecDepth 4000 in
theorem bX11_suspectAllWeights_7 {d n : Nat} {dy : Nat → Shp} {g : Hp} {P : Pst} {x1 : Int} (hn : 100 ≤ n) (h : (i3 x1) ∧ (((g 1 2) ≤ x1) → P none n (W0 dy) g) ∧ ((x1 < (g 1 2)) → (0 ≤ x1 ∧ x1 < 60) ∧ ((((g 3 x1.toNat).toNat) = 0) → V miX11_suspectAllWeights (d + 1) 7 [(0, .ref 1), (1, I_ (x1 + 1))] [] n (W0 dy) g 0 0 P) ∧ ((0 < ((g 3 x1.toNat).toNat)) → (Pt n (W0 dy) ((g 3 x1.toNat).toNat)) ∧ (((g ((g 3 x1.toNat).toNat) 1) ≠ 1) → V miX11_suspectAllWeights (d + 1) 7 [(0, .ref 1), (1, I_ (x1 + 1))] [] n (W0 dy) g 0 0 P) ∧ (((g ((g 3 x1.toNat).toNat) 1) = 1) → Runs miX1_holds d [.ref 4, .ref ((g 3 x1.toNat).toNat)] n (W0 dy) g (fun v n' S' g' => V miX11_suspectAllWeights (d + 1) 42 [(0, .ref 1), (1, I_ x1), (2, .ref ((g 3 x1.toNat).toNat))] (v.toList ++ []) n' S' g' 0 0 P))))) : V miX11_suspectAllWeights (d + 1) 7 [(0, .ref 1), (1, I_ x1)] [] n (W0 dy) g 0 0 P := by
  refine v_iload_n 5 1 rfl rfl rfl ?_
  refine v_aload_n 6 0 rfl rfl rfl ?_
  refine v_gI 7 rfl fl11_21_10.r (al 1 rfl hn) (wk1 dy) (by decide) rfl (wc1_2 dy) (x := g 1 2) rfl ?_
  refine v_rng fun w1 => ?_
  have p2 : i3 (g 1 2) := rI w1 (q := 2) (al 1 rfl hn) (wk1 dy) rfl rfl
  have c3 := h.1
  have h := h.2
  refine v_icmp_ge 8 rfl (tgt := 86) rfl c3 p2 (fun q4 => ?_) (fun q4 => ?_)
  · have h := h.1 q4
    exact v_ret (v := none) 46 rfl (Nat.zero_le _) (Nat.zero_le _) trivial rfl h
  · have h := h.2 q4
    refine v_aload_n 9 0 rfl rfl rfl ?_
    refine v_gK 10 rfl fl11_17_10.r (al 1 rfl hn) (wk1 dy) (by decide) rfl (r := 3) (wc1_1 dy) ?_
    refine v_iload_n 11 1 rfl rfl rfl ?_
    have c5 := h.1
    have h := h.2
    refine v_pa (N := 60) 12 rfl (al 3 rfl hn) (wk3 dy) (wn3 dy) (by decide) c5 (y := g 3 x1.toNat) rfl ?_
    refine v_astore_n 13 [1, 2, 0] rfl rfl (by decide) rfl ?_
    refine v_aload_n 14 2 rfl rfl rfl ?_
    refine v_ifnull 15 rfl (tgt := 80) rfl (fun q6 => ?_) (fun q6 => ?_)
    · have h := h.1 q6
      refine v_iinc 44 1 [1, 0, 2] rfl rfl (by decide) rfl ?_
      refine v_goto 45 rfl (tgt := 7) rfl ?_
      refine v_loc [0, 1] rfl ?_
      exact h
    · have h := h.2 q6
      refine v_aload_n 16 2 rfl rfl rfl ?_
      have c7 := h.1
      have h := h.2
      refine v_pI 17 rfl ⟨fl11_279_3, fl11_279_5, fl11_279_9⟩ c7 ⟨rfl, rfl, rfl⟩ (x := g ((g 3 x1.toNat).toNat) 1) rfl ?_
      refine v_rng fun w8 => ?_
      have p9 : i3 (g ((g 3 x1.toNat).toNat) 1) := rPI w8 (q := 1) c7 rfl rfl rfl rfl
      refine v_iconst 18 rfl ?_
      refine v_icmp_ne 19 rfl (tgt := 80) rfl p9 (by decide) (fun q10 => ?_) (fun q10 => ?_)
      · have h := h.1 q10
        refine v_iinc 44 1 [1, 0, 2] rfl rfl (by decide) rfl ?_
        refine v_goto 45 rfl (tgt := 7) rfl ?_
        refine v_loc [0, 1] rfl ?_
        exact h
      · have h := h.2 q10
        refine v_aload_n 20 0 rfl rfl rfl ?_
        refine v_gK 21 rfl fl11_31_10.r (al 1 rfl hn) (wk1 dy) (by decide) rfl (r := 4) (wc1_4 dy) ?_
        refine v_aload_n 22 2 rfl rfl rfl ?_
        refine v_callV (st := []) [.ref ((g 3 x1.toNat).toNat)] 23 rfl lv11_406_suspectAllWeights_1 (al 4 rfl hn) (wk4 dy) (by decide) rfl (Nat.le_refl _) (Nat.le_refl _) ?_
        exact h
set_option maxHeartbeats 8000000 in
set_option maxRecDepth 4000 in
theorem bX11_suspectAllWeights_42 {d n : Nat} {dy : Nat → Shp} {g : Hp} {P : Pst} {x1 : Int} {r2 : Nat} {xs0 : Int} (hn : 100 ≤ n) (h : (i3 xs0) ∧ ((xs0 = 0) → V miX11_suspectAllWeights (d + 1) 7 [(0, .ref 1), (1, I_ (x1 + 1))] [] n (W0 dy) g 0 0 P) ∧ ((xs0 ≠ 0) → ((14 ≤ (g 1 11)) → V miX11_suspectAllWeights (d + 1) 7 [(0, .ref 1), (1, I_ (x1 + 1))] [] n (W0 dy) g 0 0 P) ∧ (((g 1 11) < 14) → (Pt n (W0 dy) r2) ∧ (0 ≤ g 1 11 ∧ g 1 11 < 14) ∧ (i3 ((g 1 11) + 1)) ∧ V miX11_suspectAllWeights (d + 1) 7 [(0, .ref 1), (1, I_ (x1 + 1))] [] n (W0 dy) (up2 (up2 g 36 ((g 1 11).toNat) (g r2 0)) 1 11 ((g 1 11) + 1)) 0 0 P))) : V miX11_suspectAllWeights (d + 1) 42 [(0, .ref 1), (1, I_ x1), (2, .ref r2)] [I_ xs0] n (W0 dy) g 0 0 P := by
  have c1 := h.1
  have h := h.2
  refine v_if_eq 24 rfl (tgt := 80) rfl c1 (fun q2 => ?_) (fun q2 => ?_)
  · have h := h.1 q2
    refine v_iinc 44 1 [1, 0, 2] rfl rfl (by decide) rfl ?_
    refine v_goto 45 rfl (tgt := 7) rfl ?_
    refine v_loc [0, 1] rfl ?_
    exact h
  · have h := h.2 q2
    refine v_aload_n 25 0 rfl rfl rfl ?_
    refine v_gI 26 rfl fl11_70_10.r (al 1 rfl hn) (wk1 dy) (by decide) rfl (wc1_11 dy) (x := g 1 11) rfl ?_
    refine v_rng fun w3 => ?_
    have p4 : i3 (g 1 11) := rI w3 (q := 11) (al 1 rfl hn) (wk1 dy) rfl rfl
    refine v_aload_n 27 0 rfl rfl rfl ?_
    refine v_gK 28 rfl fl11_66_10.r (al 1 rfl hn) (wk1 dy) (by decide) rfl (r := 36) (wc1_10 dy) ?_
    refine v_alen (N := 14) (t := 13) 29 rfl (al 36 rfl hn) (wk36 dy) (by decide) (fun _ => rfl) (wn36 dy) ?_
    refine v_icmp_ge 30 rfl (tgt := 80) rfl p4 (by decide) (fun q5 => ?_) (fun q5 => ?_)
    · have h := h.1 q5
      refine v_iinc 44 1 [1, 0, 2] rfl rfl (by decide) rfl ?_
      refine v_goto 45 rfl (tgt := 7) rfl ?_
      refine v_loc [0, 1] rfl ?_
      exact h
    · have h := h.2 q5
      refine v_aload_n 31 0 rfl rfl rfl ?_
      refine v_gK 32 rfl fl11_66_10.r (al 1 rfl hn) (wk1 dy) (by decide) rfl (r := 36) (wc1_10 dy) ?_
      refine v_aload_n 33 0 rfl rfl rfl ?_
      refine v_gI 34 rfl fl11_70_10.r (al 1 rfl hn) (wk1 dy) (by decide) rfl (wc1_11 dy) (x := g 1 11) rfl ?_
      refine v_rng fun w6 => ?_
      have p7 : i3 (g 1 11) := rI w6 (q := 11) (al 1 rfl hn) (wk1 dy) rfl rfl
      refine v_aload_n 35 2 rfl rfl rfl ?_
      have c8 := h.1
      have h := h.2
      refine v_pI 36 rfl ⟨fl11_372_3, fl11_372_5, fl11_372_9⟩ c8 ⟨rfl, rfl, rfl⟩ (x := g r2 0) rfl ?_
      refine v_rng fun w9 => ?_
      have p10 : i3 (g r2 0) := rPI w9 (q := 0) c8 rfl rfl rfl rfl
      have c11 := h.1
      have h := h.2
      refine v_iast (N := 14) 37 rfl (al 36 rfl hn) (wk36 dy) (wn36 dy) (by decide) c11 p10 ?_
      refine v_aload_n 38 0 rfl rfl rfl ?_
      refine v_dup 39 rfl (by intro h; cases h) ?_
      refine v_gI 40 rfl fl11_70_10.r (al 1 rfl hn) (wk1 dy) (by decide) rfl (wc1_11 dy) (x := g 1 11) rfl ?_
      refine v_rng fun w12 => ?_
      have p13 : i3 (g 1 11) := rI w12 (q := 11) (al 1 rfl hn) (wk1 dy) rfl rfl
      refine v_iconst 41 rfl ?_
      refine v_iadd 42 rfl ?_
      have c14 := h.1
      have h := h.2
      refine v_putI 43 rfl fl11_70_10 (al 1 rfl hn) (wk1 dy) (by decide) rfl (wc1_11 dy) c14 ?_
      refine v_iinc 44 1 [1, 0, 2] rfl rfl (by decide) rfl ?_
      refine v_goto 45 rfl (tgt := 7) rfl ?_
      refine v_loc [0, 1] rfl ?_
      exact h
theorem wX11_suspectAllWeights {d n : Nat} {dy : Nat → Shp} {g : Hp} {P : Pst}  (hn : 100 ≤ n) (h : V miX11_suspectAllWeights (d + 1) 7 [(0, .ref 1), (1, I_ 0)] [] n (W0 dy) (up2 g 1 11 0) 0 0 P) : Runs miX11_suspectAllWeights (d + 1) [.ref 1] n (W0 dy) g P := Runs.of rfl rfl deX11_suspectAllWeights (Nat.le_of_ble_eq_true rfl) (bX11_suspectAllWeights_0 hn h)
theorem ls11_182_areAlike : LkS miX11_areAlike miX11_asRod 182 1 := ⟨⟨⟨tbG_in (List.mem_append_right _ (List.mem_of_getElem? (i := 620) (by decide +kernel))) rfl, tbG_in (List.mem_append_right _ (List.mem_of_getElem? (i := 1) (by decide +kernel))) rfl, tbG_in (List.mem_append_right _ (List.mem_of_getElem? (i := 618) (by decide +kernel))) rfl⟩, ⟨by decide +kernel, by decide +kernel, by decide +kernel⟩, by decide⟩, tbG_in (List.mem_append_right _ (List.mem_of_getElem? (i := 619) (by decide +kernel))) rfl⟩
theorem lv11_427_areAlike_5 : LkV miX11_areAlike miX6_isTiedAt 427 2 5 := ⟨⟨⟨tbG_in (List.mem_append_right _ (List.mem_of_getElem? (i := 1005) (by decide +kernel))) rfl, tbG_in (List.mem_append_right _ (List.mem_of_getElem? (i := 14) (by decide +kernel))) rfl, tbG_in (List.mem_append_right _ (List.mem_of_getElem? (i := 1002) (by decide +kernel))) rfl⟩, ⟨by decide +kernel, by decide +kernel, by decide +kernel⟩, by decide⟩, tbG_in (List.mem_append_right _ (List.mem_of_getElem? (i := 1003) (by decide +kernel))) rfl, RX6, TX6, 16, rfl, tbG_in (List.mem_append_right _ (List.mem_of_getElem? (i := 1004) (by decide +kernel))) rfl⟩
theorem ls11_430_areAlike : LkS miX11_areAlike miX11_areSidesAlike 430 3 := ⟨⟨⟨tbG_in (List.mem_append_right _ (List.mem_of_getElem? (i := 1008) (by decide +kernel))) rfl, tbG_in (List.mem_append_right _ (List.mem_of_getElem? (i := 1) (by decide +kernel))) rfl, tbG_in (List.mem_append_right _ (List.mem_of_getElem? (i := 1006) (by decide +kernel))) rfl⟩, ⟨by decide +kernel, by decide +kernel, by decide +kernel⟩, by decide⟩, tbG_in (List.mem_append_right _ (List.mem_of_getElem? (i := 1007) (by decide +kernel))) rfl⟩
set_option maxHeartbeats 8000000 in
set_option maxRecDepth 4000 in
theorem bX11_areAlike_0 {d n : Nat} {dy : Nat → Shp} {g : Hp} {P : Pst} {r0 : Nat} {r1 : Nat} {x2 : Int} (hn : 100 ≤ n) (h : (i3 x2) ∧ ((60 ≤ x2) → P (some (I_ 0)) n (W0 dy) g) ∧ ((x2 < 60) → (Pt n (W0 dy) r0) ∧ (Pt n (W0 dy) r1) ∧ (((g r0 1) ≠ (g r1 1)) → P (some (I_ 0)) n (W0 dy) g) ∧ (((g r0 1) = (g r1 1)) → (((g r0 2) = (g r1 2)) → Runs miX11_asRod d [.ref r0] n (W0 dy) g (fun v n' S' g' => V miX11_areAlike (d + 1) 34 [(0, .ref r0), (1, .ref r1), (2, I_ x2)] (v.toList ++ []) n' S' g' 0 0 P)) ∧ (((g r0 2) ≠ (g r1 2)) → P (some (I_ 0)) n (W0 dy) g)))) : V miX11_areAlike (d + 1) 0 [(0, .ref r0), (1, .ref r1), (2, I_ x2)] [] n (W0 dy) g 0 0 P := by
  refine v_iload_n 0 2 rfl rfl rfl ?_
  refine v_bipush 1 rfl (by decide) ?_
  have c1 := h.1
  have h := h.2
  refine v_icmp_ge 2 rfl (tgt := 28) rfl c1 (by decide) (fun q2 => ?_) (fun q2 => ?_)
  · have h := h.1 q2
    refine v_iconst 13 rfl ?_
    exact v_ret (v := some (I_ 0)) 14 rfl (Nat.zero_le _) (Nat.zero_le _) (Or.inl rfl) rfl h
  · have h := h.2 q2
    refine v_aload_n 3 0 rfl rfl rfl ?_
    have c3 := h.1
    have h := h.2
    refine v_pI 4 rfl ⟨fl11_279_3, fl11_279_5, fl11_279_9⟩ c3 ⟨rfl, rfl, rfl⟩ (x := g r0 1) rfl ?_
    refine v_rng fun w4 => ?_
    have p5 : i3 (g r0 1) := rPI w4 (q := 1) c3 rfl rfl rfl rfl
    refine v_aload_n 5 1 rfl rfl rfl ?_
    have c6 := h.1
    have h := h.2
    refine v_pI 6 rfl ⟨fl11_279_3, fl11_279_5, fl11_279_9⟩ c6 ⟨rfl, rfl, rfl⟩ (x := g r1 1) rfl ?_
    refine v_rng fun w7 => ?_
    have p8 : i3 (g r1 1) := rPI w7 (q := 1) c6 rfl rfl rfl rfl
    refine v_icmp_ne 7 rfl (tgt := 28) rfl p5 p8 (fun q9 => ?_) (fun q9 => ?_)
    · have h := h.1 q9
      refine v_iconst 13 rfl ?_
      exact v_ret (v := some (I_ 0)) 14 rfl (Nat.zero_le _) (Nat.zero_le _) (Or.inl rfl) rfl h
    · have h := h.2 q9
      refine v_aload_n 8 0 rfl rfl rfl ?_
      refine v_pI 9 rfl ⟨fl11_375_3, fl11_375_5, fl11_375_9⟩ c3 ⟨rfl, rfl, rfl⟩ (x := g r0 2) rfl ?_
      refine v_rng fun w10 => ?_
      have p11 : i3 (g r0 2) := rPI w10 (q := 2) c3 rfl rfl rfl rfl
      refine v_aload_n 10 1 rfl rfl rfl ?_
      refine v_pI 11 rfl ⟨fl11_375_3, fl11_375_5, fl11_375_9⟩ c6 ⟨rfl, rfl, rfl⟩ (x := g r1 2) rfl ?_
      refine v_rng fun w12 => ?_
      have p13 : i3 (g r1 2) := rPI w12 (q := 2) c6 rfl rfl rfl rfl
      refine v_icmp_eq 12 rfl (tgt := 30) rfl p11 p13 (fun q14 => ?_) (fun q14 => ?_)
      · have h := h.1 q14
        refine v_aload_n 15 0 rfl rfl rfl ?_
        refine v_callS (st := []) [.ref r0] 16 rfl ls11_182_areAlike rfl (Nat.lt_of_lt_of_le (by decide) hn) (Nat.le_refl _) (Nat.le_refl _) ?_
        exact h
      · have h := h.2 q14
        refine v_iconst 13 rfl ?_
        exact v_ret (v := some (I_ 0)) 14 rfl (Nat.zero_le _) (Nat.zero_le _) (Or.inl rfl) rfl h
set_option maxHeartbeats 8000000 in
set_option maxRecDepth 4000 in
theorem bX11_areAlike_34 {d n : Nat} {dy : Nat → Shp} {g : Hp} {P : Pst} {r0 : Nat} {r1 : Nat} {x2 : Int} {rs0 : Nat} (hn : 100 ≤ n) (h : Runs miX11_asRod d [.ref r1] n (W0 dy) g (fun v n' S' g' => V miX11_areAlike (d + 1) 39 [(0, .ref r0), (1, .ref r1), (2, I_ x2), (3, .ref rs0)] (v.toList ++ []) n' S' g' 0 0 P)) : V miX11_areAlike (d + 1) 34 [(0, .ref r0), (1, .ref r1), (2, I_ x2)] [.ref rs0] n (W0 dy) g 0 0 P := by
  refine v_astore_n 17 [1, 2, 3, 0] rfl rfl (by decide) rfl ?_
  refine v_aload_n 18 1 rfl rfl rfl ?_
  refine v_callS (st := []) [.ref r1] 19 rfl ls11_182_areAlike rfl (Nat.lt_of_lt_of_le (by decide) hn) (Nat.le_refl _) (Nat.le_refl _) ?_
  exact h
set_option maxHeartbeats 8000000 in
set_option maxRecDepth 4000 in
theorem bX11_areAlike_39 {d n : Nat} {dy : Nat → Shp} {g : Hp} {P : Pst} {r0 : Nat} {r1 : Nat} {x2 : Int} {r3 : Nat} {rs0 : Nat} (hn : 100 ≤ n) (h : ((r3 = 0) → P (some (I_ 1)) n (W0 dy) g) ∧ ((0 < r3) → ((0 < rs0) → (Ob n (W0 dy) r3 5) ∧ (Ob n (W0 dy) rs0 5) ∧ (((g r3 10) ≠ (g rs0 10)) → P (some (I_ 0)) n (W0 dy) g) ∧ (((g r3 10) = (g rs0 10)) → (((g r3 11) = (g rs0 11)) → Runs miX6_isTiedAt d [.ref r3, I_ (g rs0 12), I_ (g rs0 13)] n (W0 dy) g (fun v n' S' g' => V miX11_areAlike (d + 1) 92 [(0, .ref r0), (1, .ref r1), (2, I_ x2), (3, .ref r3), (4, .ref rs0)] (v.toList ++ []) n' S' g' 0 0 P)) ∧ (((g r3 11) ≠ (g rs0 11)) → P (some (I_ 0)) n (W0 dy) g))) ∧ ((rs0 = 0) → P (some (I_ 1)) n (W0 dy) g))) : V miX11_areAlike (d + 1) 39 [(0, .ref r0), (1, .ref r1), (2, I_ x2), (3, .ref r3)] [.ref rs0] n (W0 dy) g 0 0 P := by
  refine v_astore 20 [1, 2, 3, 4, 0] rfl (by decide) rfl ?_
  refine v_aload_n 21 3 rfl rfl rfl ?_
  refine v_ifnull 22 rfl (tgt := 50) rfl (fun q1 => ?_) (fun q1 => ?_)
  · have h := h.1 q1
    refine v_iconst 25 rfl ?_
    exact v_ret (v := some (I_ 1)) 26 rfl (Nat.zero_le _) (Nat.zero_le _) (Or.inr rfl) rfl h
  · have h := h.2 q1
    refine v_aload 23 4 rfl rfl ?_
    refine v_ifnonnull 24 rfl (tgt := 52) rfl (fun q2 => ?_) (fun q2 => ?_)
    · have h := h.1 q2
      refine v_aload_n 27 3 rfl rfl rfl ?_
      have c3 := h.1
      have h := h.2
      refine v_gI 28 rfl fl11_385_5 c3.1 c3.2.1 (by decide) rfl (c3.2.2 10) (x := g r3 10) rfl ?_
      refine v_rng fun w4 => ?_
      have p5 : i3 (g r3 10) := rI w4 (q := 10) c3.1 c3.2.1 rfl rfl
      refine v_aload 29 4 rfl rfl ?_
      have c6 := h.1
      have h := h.2
      refine v_gI 30 rfl fl11_385_5 c6.1 c6.2.1 (by decide) rfl (c6.2.2 10) (x := g rs0 10) rfl ?_
      refine v_rng fun w7 => ?_
      have p8 : i3 (g rs0 10) := rI w7 (q := 10) c6.1 c6.2.1 rfl rfl
      refine v_icmp_ne 31 rfl (tgt := 76) rfl p5 p8 (fun q9 => ?_) (fun q9 => ?_)
      · have h := h.1 q9
        refine v_iconst 37 rfl ?_
        exact v_ret (v := some (I_ 0)) 38 rfl (Nat.zero_le _) (Nat.zero_le _) (Or.inl rfl) rfl h
      · have h := h.2 q9
        refine v_aload_n 32 3 rfl rfl rfl ?_
        refine v_gI 33 rfl fl11_388_5 c3.1 c3.2.1 (by decide) rfl (c3.2.2 11) (x := g r3 11) rfl ?_
        refine v_rng fun w10 => ?_
        have p11 : i3 (g r3 11) := rI w10 (q := 11) c3.1 c3.2.1 rfl rfl
        refine v_aload 34 4 rfl rfl ?_
        refine v_gI 35 rfl fl11_388_5 c6.1 c6.2.1 (by decide) rfl (c6.2.2 11) (x := g rs0 11) rfl ?_
        refine v_rng fun w12 => ?_
        have p13 : i3 (g rs0 11) := rI w12 (q := 11) c6.1 c6.2.1 rfl rfl
        refine v_icmp_eq 36 rfl (tgt := 78) rfl p11 p13 (fun q14 => ?_) (fun q14 => ?_)
        · have h := h.1 q14
          refine v_aload_n 39 3 rfl rfl rfl ?_
          refine v_aload 40 4 rfl rfl ?_
          refine v_gI 41 rfl fl11_214_5.r c6.1 c6.2.1 (by decide) rfl (c6.2.2 12) (x := g rs0 12) rfl ?_
          refine v_rng fun w15 => ?_
          have p16 : i3 (g rs0 12) := rI w15 (q := 12) c6.1 c6.2.1 rfl rfl
          refine v_aload 42 4 rfl rfl ?_
          refine v_gI 43 rfl fl11_217_5.r c6.1 c6.2.1 (by decide) rfl (c6.2.2 13) (x := g rs0 13) rfl ?_
          refine v_rng fun w17 => ?_
          have p18 : i3 (g rs0 13) := rI w17 (q := 13) c6.1 c6.2.1 rfl rfl
          refine v_callV (st := []) [I_ (g rs0 12), I_ (g rs0 13)] 44 rfl lv11_427_areAlike_5 c3.1 c3.2.1 (by decide) rfl (Nat.le_refl _) (Nat.le_refl _) ?_
          exact h
        · have h := h.2 q14
          refine v_iconst 37 rfl ?_
          exact v_ret (v := some (I_ 0)) 38 rfl (Nat.zero_le _) (Nat.zero_le _) (Or.inl rfl) rfl h
    · have h := h.2 q2
      refine v_iconst 25 rfl ?_
      exact v_ret (v := some (I_ 1)) 26 rfl (Nat.zero_le _) (Nat.zero_le _) (Or.inr rfl) rfl h
set_option maxHeartbeats 8000000 in
set_option maxRecDepth 4000 in
theorem bX11_areAlike_92 {d n : Nat} {dy : Nat → Shp} {g : Hp} {P : Pst} {r0 : Nat} {r1 : Nat} {x2 : Int} {r3 : Nat} {r4 : Nat} {xs0 : Int} (hn : 100 ≤ n) (h : (i3 xs0) ∧ ((xs0 = 0) → (Ob n (W0 dy) r4 5) ∧ (Ob n (W0 dy) r3 5) ∧ Runs miX6_isTiedAt d [.ref r3, I_ ((g r4 13) - (g r4 12)), I_ (g r4 13)] n (W0 dy) g (fun v n' S' g' => V miX11_areAlike (d + 1) 149 [(0, .ref r0), (1, .ref r1), (2, I_ x2), (3, .ref r3), (4, .ref r4)] (v.toList ++ []) n' S' g' 0 0 P)) ∧ ((xs0 ≠ 0) → (Ob n (W0 dy) r3 5) ∧ (Ob n (W0 dy) r4 5) ∧ Runs miX11_areSidesAlike d [.ref ((g r3 14).toNat), .ref ((g r4 14).toNat), I_ x2] n (W0 dy) g (fun v n' S' g' => V miX11_areAlike (d + 1) 108 [(0, .ref r0), (1, .ref r1), (2, I_ x2), (3, .ref r3), (4, .ref r4)] (v.toList ++ []) n' S' g' 0 0 P))) : V miX11_areAlike (d + 1) 92 [(0, .ref r0), (1, .ref r1), (2, I_ x2), (3, .ref r3), (4, .ref r4)] [I_ xs0] n (W0 dy) g 0 0 P := by
  have c1 := h.1
  have h := h.2
  refine v_if_eq 45 rfl (tgt := 129) rfl c1 (fun q2 => ?_) (fun q2 => ?_)
  · have h := h.1 q2
    refine v_aload_n 62 3 rfl rfl rfl ?_
    refine v_aload 63 4 rfl rfl ?_
    have c3 := h.1
    have h := h.2
    refine v_gI 64 rfl fl11_217_5.r c3.1 c3.2.1 (by decide) rfl (c3.2.2 13) (x := g r4 13) rfl ?_
    refine v_rng fun w4 => ?_
    have p5 : i3 (g r4 13) := rI w4 (q := 13) c3.1 c3.2.1 rfl rfl
    refine v_aload 65 4 rfl rfl ?_
    refine v_gI 66 rfl fl11_214_5.r c3.1 c3.2.1 (by decide) rfl (c3.2.2 12) (x := g r4 12) rfl ?_
    refine v_rng fun w6 => ?_
    have p7 : i3 (g r4 12) := rI w6 (q := 12) c3.1 c3.2.1 rfl rfl
    refine v_isub 67 rfl ?_
    refine v_aload 68 4 rfl rfl ?_
    refine v_gI 69 rfl fl11_217_5.r c3.1 c3.2.1 (by decide) rfl (c3.2.2 13) (x := g r4 13) rfl ?_
    refine v_rng fun w8 => ?_
    have p9 : i3 (g r4 13) := rI w8 (q := 13) c3.1 c3.2.1 rfl rfl
    have c10 := h.1
    have h := h.2
    refine v_callV (st := []) [I_ ((g r4 13) - (g r4 12)), I_ (g r4 13)] 70 rfl lv11_427_areAlike_5 c10.1 c10.2.1 (by decide) rfl (Nat.le_refl _) (Nat.le_refl _) ?_
    exact h
  · have h := h.2 q2
    refine v_aload_n 46 3 rfl rfl rfl ?_
    have c11 := h.1
    have h := h.2
    refine v_gR 47 rfl fl11_220_5.r c11.1 c11.2.1 (by decide) rfl (c11.2.2 14) (x := g r3 14) rfl ?_
    refine v_aload 48 4 rfl rfl ?_
    have c12 := h.1
    have h := h.2
    refine v_gR 49 rfl fl11_220_5.r c12.1 c12.2.1 (by decide) rfl (c12.2.2 14) (x := g r4 14) rfl ?_
    refine v_iload_n 50 2 rfl rfl rfl ?_
    refine v_callS (st := []) [.ref ((g r3 14).toNat), .ref ((g r4 14).toNat), I_ x2] 51 rfl ls11_430_areAlike rfl (Nat.lt_of_lt_of_le (by decide) hn) (Nat.le_refl _) (Nat.le_refl _) ?_
    exact h
set_option maxHeartbeats 8000000 in
set_option maxRecDepth 4000 in
theorem bX11_areAlike_108 {d n : Nat} {dy : Nat → Shp} {g : Hp} {P : Pst} {r0 : Nat} {r1 : Nat} {x2 : Int} {r3 : Nat} {r4 : Nat} {xs0 : Int} (hn : 100 ≤ n) (h : (i3 xs0) ∧ ((xs0 = 0) → (Ob n (W0 dy) r4 5) ∧ (Ob n (W0 dy) r3 5) ∧ Runs miX6_isTiedAt d [.ref r3, I_ ((g r4 13) - (g r4 12)), I_ (g r4 13)] n (W0 dy) g (fun v n' S' g' => V miX11_areAlike (d + 1) 149 [(0, .ref r0), (1, .ref r1), (2, I_ x2), (3, .ref r3), (4, .ref r4)] (v.toList ++ []) n' S' g' 0 0 P)) ∧ ((xs0 ≠ 0) → (Ob n (W0 dy) r3 5) ∧ (Ob n (W0 dy) r4 5) ∧ Runs miX11_areSidesAlike d [.ref ((g r3 15).toNat), .ref ((g r4 15).toNat), I_ x2] n (W0 dy) g (fun v n' S' g' => V miX11_areAlike (d + 1) 124 [(0, .ref r0), (1, .ref r1), (2, I_ x2), (3, .ref r3), (4, .ref r4)] (v.toList ++ []) n' S' g' 0 0 P))) : V miX11_areAlike (d + 1) 108 [(0, .ref r0), (1, .ref r1), (2, I_ x2), (3, .ref r3), (4, .ref r4)] [I_ xs0] n (W0 dy) g 0 0 P := by
  have c1 := h.1
  have h := h.2
  refine v_if_eq 52 rfl (tgt := 129) rfl c1 (fun q2 => ?_) (fun q2 => ?_)
  · have h := h.1 q2
    refine v_aload_n 62 3 rfl rfl rfl ?_
    refine v_aload 63 4 rfl rfl ?_
    have c3 := h.1
    have h := h.2
    refine v_gI 64 rfl fl11_217_5.r c3.1 c3.2.1 (by decide) rfl (c3.2.2 13) (x := g r4 13) rfl ?_
    refine v_rng fun w4 => ?_
    have p5 : i3 (g r4 13) := rI w4 (q := 13) c3.1 c3.2.1 rfl rfl
    refine v_aload 65 4 rfl rfl ?_
    refine v_gI 66 rfl fl11_214_5.r c3.1 c3.2.1 (by decide) rfl (c3.2.2 12) (x := g r4 12) rfl ?_
    refine v_rng fun w6 => ?_
    have p7 : i3 (g r4 12) := rI w6 (q := 12) c3.1 c3.2.1 rfl rfl
    refine v_isub 67 rfl ?_
    refine v_aload 68 4 rfl rfl ?_
    refine v_gI 69 rfl fl11_217_5.r c3.1 c3.2.1 (by decide) rfl (c3.2.2 13) (x := g r4 13) rfl ?_
    refine v_rng fun w8 => ?_
    have p9 : i3 (g r4 13) := rI w8 (q := 13) c3.1 c3.2.1 rfl rfl
    have c10 := h.1
    have h := h.2
    refine v_callV (st := []) [I_ ((g r4 13) - (g r4 12)), I_ (g r4 13)] 70 rfl lv11_427_areAlike_5 c10.1 c10.2.1 (by decide) rfl (Nat.le_refl _) (Nat.le_refl _) ?_
    exact h
  · have h := h.2 q2
    refine v_aload_n 53 3 rfl rfl rfl ?_
    have c11 := h.1
    have h := h.2
    refine v_gR 54 rfl fl11_224_5.r c11.1 c11.2.1 (by decide) rfl (c11.2.2 15) (x := g r3 15) rfl ?_
    refine v_aload 55 4 rfl rfl ?_
    have c12 := h.1
    have h := h.2
    refine v_gR 56 rfl fl11_224_5.r c12.1 c12.2.1 (by decide) rfl (c12.2.2 15) (x := g r4 15) rfl ?_
    refine v_iload_n 57 2 rfl rfl rfl ?_
    refine v_callS (st := []) [.ref ((g r3 15).toNat), .ref ((g r4 15).toNat), I_ x2] 58 rfl ls11_430_areAlike rfl (Nat.lt_of_lt_of_le (by decide) hn) (Nat.le_refl _) (Nat.le_refl _) ?_
    exact h
set_option maxHeartbeats 8000000 in
set_option maxRecDepth 4000 in
theorem bX11_areAlike_124 {d n : Nat} {dy : Nat → Shp} {g : Hp} {P : Pst} {r0 : Nat} {r1 : Nat} {x2 : Int} {r3 : Nat} {r4 : Nat} {xs0 : Int} (hn : 100 ≤ n) (h : (i3 xs0) ∧ ((xs0 = 0) → (Ob n (W0 dy) r4 5) ∧ (Ob n (W0 dy) r3 5) ∧ Runs miX6_isTiedAt d [.ref r3, I_ ((g r4 13) - (g r4 12)), I_ (g r4 13)] n (W0 dy) g (fun v n' S' g' => V miX11_areAlike (d + 1) 149 [(0, .ref r0), (1, .ref r1), (2, I_ x2), (3, .ref r3), (4, .ref r4)] (v.toList ++ []) n' S' g' 0 0 P)) ∧ ((xs0 ≠ 0) → P (some (I_ 1)) n (W0 dy) g)) : V miX11_areAlike (d + 1) 124 [(0, .ref r0), (1, .ref r1), (2, I_ x2), (3, .ref r3), (4, .ref r4)] [I_ xs0] n (W0 dy) g 0 0 P := by
  have c1 := h.1
  have h := h.2
  refine v_if_eq 59 rfl (tgt := 129) rfl c1 (fun q2 => ?_) (fun q2 => ?_)
  · have h := h.1 q2
    refine v_aload_n 62 3 rfl rfl rfl ?_
    refine v_aload 63 4 rfl rfl ?_
    have c3 := h.1
    have h := h.2
    refine v_gI 64 rfl fl11_217_5.r c3.1 c3.2.1 (by decide) rfl (c3.2.2 13) (x := g r4 13) rfl ?_
    refine v_rng fun w4 => ?_
    have p5 : i3 (g r4 13) := rI w4 (q := 13) c3.1 c3.2.1 rfl rfl
    refine v_aload 65 4 rfl rfl ?_
    refine v_gI 66 rfl fl11_214_5.r c3.1 c3.2.1 (by decide) rfl (c3.2.2 12) (x := g r4 12) rfl ?_
    refine v_rng fun w6 => ?_
    have p7 : i3 (g r4 12) := rI w6 (q := 12) c3.1 c3.2.1 rfl rfl
    refine v_isub 67 rfl ?_
    refine v_aload 68 4 rfl rfl ?_
    refine v_gI 69 rfl fl11_217_5.r c3.1 c3.2.1 (by decide) rfl (c3.2.2 13) (x := g r4 13) rfl ?_
    refine v_rng fun w8 => ?_
    have p9 : i3 (g r4 13) := rI w8 (q := 13) c3.1 c3.2.1 rfl rfl
    have c10 := h.1
    have h := h.2
    refine v_callV (st := []) [I_ ((g r4 13) - (g r4 12)), I_ (g r4 13)] 70 rfl lv11_427_areAlike_5 c10.1 c10.2.1 (by decide) rfl (Nat.le_refl _) (Nat.le_refl _) ?_
    exact h
  · have h := h.2 q2
    refine v_iconst 60 rfl ?_
    exact v_ret (v := some (I_ 1)) 61 rfl (Nat.zero_le _) (Nat.zero_le _) (Or.inr rfl) rfl h
set_option maxHeartbeats 8000000 in
set_option maxRecDepth 4000 in
theorem bX11_areAlike_149 {d n : Nat} {dy : Nat → Shp} {g : Hp} {P : Pst} {r0 : Nat} {r1 : Nat} {x2 : Int} {r3 : Nat} {r4 : Nat} {xs0 : Int} (hn : 100 ≤ n) (h : (i3 xs0) ∧ ((xs0 = 0) → P (some (I_ 0)) n (W0 dy) g) ∧ ((xs0 ≠ 0) → (Ob n (W0 dy) r3 5) ∧ (Ob n (W0 dy) r4 5) ∧ Runs miX11_areSidesAlike d [.ref ((g r3 14).toNat), .ref ((g r4 15).toNat), I_ x2] n (W0 dy) g (fun v n' S' g' => V miX11_areAlike (d + 1) 165 [(0, .ref r0), (1, .ref r1), (2, I_ x2), (3, .ref r3), (4, .ref r4)] (v.toList ++ []) n' S' g' 0 0 P))) : V miX11_areAlike (d + 1) 149 [(0, .ref r0), (1, .ref r1), (2, I_ x2), (3, .ref r3), (4, .ref r4)] [I_ xs0] n (W0 dy) g 0 0 P := by
  have c1 := h.1
  have h := h.2
  refine v_if_eq 71 rfl (tgt := 188) rfl c1 (fun q2 => ?_) (fun q2 => ?_)
  · have h := h.1 q2
    refine v_iconst 88 rfl ?_
    exact v_ret (v := some (I_ 0)) 89 rfl (Nat.zero_le _) (Nat.zero_le _) (Or.inl rfl) rfl h
  · have h := h.2 q2
    refine v_aload_n 72 3 rfl rfl rfl ?_
    have c3 := h.1
    have h := h.2
    refine v_gR 73 rfl fl11_220_5.r c3.1 c3.2.1 (by decide) rfl (c3.2.2 14) (x := g r3 14) rfl ?_
    refine v_aload 74 4 rfl rfl ?_
    have c4 := h.1
    have h := h.2
    refine v_gR 75 rfl fl11_224_5.r c4.1 c4.2.1 (by decide) rfl (c4.2.2 15) (x := g r4 15) rfl ?_
    refine v_iload_n 76 2 rfl rfl rfl ?_
    refine v_callS (st := []) [.ref ((g r3 14).toNat), .ref ((g r4 15).toNat), I_ x2] 77 rfl ls11_430_areAlike rfl (Nat.lt_of_lt_of_le (by decide) hn) (Nat.le_refl _) (Nat.le_refl _) ?_
    exact h
set_option maxHeartbeats 8000000 in
set_option maxRecDepth 4000 in
theorem bX11_areAlike_165 {d n : Nat} {dy : Nat → Shp} {g : Hp} {P : Pst} {r0 : Nat} {r1 : Nat} {x2 : Int} {r3 : Nat} {r4 : Nat} {xs0 : Int} (hn : 100 ≤ n) (h : (i3 xs0) ∧ ((xs0 = 0) → P (some (I_ 0)) n (W0 dy) g) ∧ ((xs0 ≠ 0) → (Ob n (W0 dy) r3 5) ∧ (Ob n (W0 dy) r4 5) ∧ Runs miX11_areSidesAlike d [.ref ((g r3 15).toNat), .ref ((g r4 14).toNat), I_ x2] n (W0 dy) g (fun v n' S' g' => V miX11_areAlike (d + 1) 181 [(0, .ref r0), (1, .ref r1), (2, I_ x2), (3, .ref r3), (4, .ref r4)] (v.toList ++ []) n' S' g' 0 0 P))) : V miX11_areAlike (d + 1) 165 [(0, .ref r0), (1, .ref r1), (2, I_ x2), (3, .ref r3), (4, .ref r4)] [I_ xs0] n (W0 dy) g 0 0 P := by
  have c1 := h.1
  have h := h.2
  refine v_if_eq 78 rfl (tgt := 188) rfl c1 (fun q2 => ?_) (fun q2 => ?_)
  · have h := h.1 q2
    refine v_iconst 88 rfl ?_
    exact v_ret (v := some (I_ 0)) 89 rfl (Nat.zero_le _) (Nat.zero_le _) (Or.inl rfl) rfl h
  · have h := h.2 q2
    refine v_aload_n 79 3 rfl rfl rfl ?_
    have c3 := h.1
    have h := h.2
    refine v_gR 80 rfl fl11_224_5.r c3.1 c3.2.1 (by decide) rfl (c3.2.2 15) (x := g r3 15) rfl ?_
    refine v_aload 81 4 rfl rfl ?_
    have c4 := h.1
    have h := h.2
    refine v_gR 82 rfl fl11_220_5.r c4.1 c4.2.1 (by decide) rfl (c4.2.2 14) (x := g r4 14) rfl ?_
    refine v_iload_n 83 2 rfl rfl rfl ?_
    refine v_callS (st := []) [.ref ((g r3 15).toNat), .ref ((g r4 14).toNat), I_ x2] 84 rfl ls11_430_areAlike rfl (Nat.lt_of_lt_of_le (by decide) hn) (Nat.le_refl _) (Nat.le_refl _) ?_
    exact h
set_option maxHeartbeats 8000000 in
set_option maxRecDepth 4000 in
theorem bX11_areAlike_181 {d n : Nat} {dy : Nat → Shp} {g : Hp} {P : Pst} {r0 : Nat} {r1 : Nat} {x2 : Int} {r3 : Nat} {r4 : Nat} {xs0 : Int} (hn : 100 ≤ n) (h : (i3 xs0) ∧ ((xs0 = 0) → P (some (I_ 0)) n (W0 dy) g) ∧ ((xs0 ≠ 0) → P (some (I_ 1)) n (W0 dy) g)) : V miX11_areAlike (d + 1) 181 [(0, .ref r0), (1, .ref r1), (2, I_ x2), (3, .ref r3), (4, .ref r4)] [I_ xs0] n (W0 dy) g 0 0 P := by
  have c1 := h.1
  have h := h.2
  refine v_if_eq 85 rfl (tgt := 188) rfl c1 (fun q2 => ?_) (fun q2 => ?_)
  · have h := h.1 q2
    refine v_iconst 88 rfl ?_
    exact v_ret (v := some (I_ 0)) 89 rfl (Nat.zero_le _) (Nat.zero_le _) (Or.inl rfl) rfl h
  · have h := h.2 q2
    refine v_iconst 86 rfl ?_
    refine v_goto 87 rfl (tgt := 189) rfl ?_
    exact v_ret (v := some (I_ 1)) 89 rfl (Nat.zero_le _) (Nat.zero_le _) (Or.inr rfl) rfl h
theorem wX11_areAlike {d n : Nat} {dy : Nat → Shp} {g : Hp} {P : Pst} {r0 : Nat} {r1 : Nat} {x2 : Int} (hn : 100 ≤ n) (h : (i3 x2) ∧ ((60 ≤ x2) → P (some (I_ 0)) n (W0 dy) g) ∧ ((x2 < 60) → (Pt n (W0 dy) r0) ∧ (Pt n (W0 dy) r1) ∧ (((g r0 1) ≠ (g r1 1)) → P (some (I_ 0)) n (W0 dy) g) ∧ (((g r0 1) = (g r1 1)) → (((g r0 2) = (g r1 2)) → Runs miX11_asRod d [.ref r0] n (W0 dy) g (fun v n' S' g' => V miX11_areAlike (d + 1) 34 [(0, .ref r0), (1, .ref r1), (2, I_ x2)] (v.toList ++ []) n' S' g' 0 0 P)) ∧ (((g r0 2) ≠ (g r1 2)) → P (some (I_ 0)) n (W0 dy) g)))) : Runs miX11_areAlike (d + 1) [.ref r0, .ref r1, I_ x2] n (W0 dy) g P := Runs.of rfl rfl deX11_areAlike (Nat.le_of_ble_eq_true rfl) (bX11_areAlike_0 hn h)
theorem ls11_344_areSidesAlike : LkS miX11_areSidesAlike miX11_areAlike 344 3 := ⟨⟨⟨tbG_in (List.mem_append_right _ (List.mem_of_getElem? (i := 1001) (by decide +kernel))) rfl, tbG_in (List.mem_append_right _ (List.mem_of_getElem? (i := 1) (by decide +kernel))) rfl, tbG_in (List.mem_append_right _ (List.mem_of_getElem? (i := 999) (by decide +kernel))) rfl⟩, ⟨by decide +kernel, by decide +kernel, by decide +kernel⟩, by decide⟩, tbG_in (List.mem_append_right _ (List.mem_of_getElem? (i := 1000) (by decide +kernel))) rfl⟩
set_option maxHeartbeats 8000000 in
set_option maxRecDepth 4000 in
theorem bX11_areSidesAlike_0 {d n : Nat} {dy : Nat → Shp} {g : Hp} {P : Pst} {r0 : Nat} {r1 : Nat} {x2 : Int} (hn : 100 ≤ n) (h : ((r0 = 0) → ((0 < r0) → P (some (I_ 0)) n (W0 dy) g) ∧ ((r0 = 0) → ((0 < r1) → P (some (I_ 0)) n (W0 dy) g) ∧ ((r1 = 0) → P (some (I_ 1)) n (W0 dy) g))) ∧ ((0 < r0) → ((0 < r1) → (Pt n (W0 dy) r0) ∧ (Pt n (W0 dy) r1) ∧ (((g r0 5) ≠ (g r1 5)) → P (some (I_ 0)) n (W0 dy) g) ∧ (((g r0 5) = (g r1 5)) → Runs miX11_areAlike d [.ref r0, .ref r1, I_ (x2 + 1)] n (W0 dy) g (fun v n' S' g' => V miX11_areSidesAlike (d + 1) 41 [(0, .ref r0), (1, .ref r1), (2, I_ x2)] (v.toList ++ []) n' S' g' 0 0 P))) ∧ ((r1 = 0) → ((0 < r0) → P (some (I_ 0)) n (W0 dy) g) ∧ ((r0 = 0) → ((0 < r1) → P (some (I_ 0)) n (W0 dy) g) ∧ ((r1 = 0) → P (some (I_ 1)) n (W0 dy) g))))) : V miX11_areSidesAlike (d + 1) 0 [(0, .ref r0), (1, .ref r1), (2, I_ x2)] [] n (W0 dy) g 0 0 P := by
  refine v_aload_n 0 0 rfl rfl rfl ?_
  refine v_ifnull 1 rfl (tgt := 8) rfl (fun q1 => ?_) (fun q1 => ?_)
  · have h := h.1 q1
    refine v_aload_n 4 0 rfl rfl rfl ?_
    refine v_ifnonnull 5 rfl (tgt := 20) rfl (fun q2 => ?_) (fun q2 => ?_)
    · have h := h.1 q2
      refine v_iconst 10 rfl ?_
      exact v_ret (v := some (I_ 0)) 11 rfl (Nat.zero_le _) (Nat.zero_le _) (Or.inl rfl) rfl h
    · have h := h.2 q2
      refine v_aload_n 6 1 rfl rfl rfl ?_
      refine v_ifnonnull 7 rfl (tgt := 20) rfl (fun q3 => ?_) (fun q3 => ?_)
      · have h := h.1 q3
        refine v_iconst 10 rfl ?_
        exact v_ret (v := some (I_ 0)) 11 rfl (Nat.zero_le _) (Nat.zero_le _) (Or.inl rfl) rfl h
      · have h := h.2 q3
        refine v_iconst 8 rfl ?_
        refine v_goto 9 rfl (tgt := 21) rfl ?_
        exact v_ret (v := some (I_ 1)) 11 rfl (Nat.zero_le _) (Nat.zero_le _) (Or.inr rfl) rfl h
  · have h := h.2 q1
    refine v_aload_n 2 1 rfl rfl rfl ?_
    refine v_ifnonnull 3 rfl (tgt := 22) rfl (fun q4 => ?_) (fun q4 => ?_)
    · have h := h.1 q4
      refine v_aload_n 12 0 rfl rfl rfl ?_
      have c5 := h.1
      have h := h.2
      refine v_pI 13 rfl ⟨fl11_207_3.r, fl11_207_5.r, fl11_207_9.r⟩ c5 ⟨rfl, rfl, rfl⟩ (x := g r0 5) rfl ?_
      refine v_rng fun w6 => ?_
      have p7 : i3 (g r0 5) := rPI w6 (q := 5) c5 rfl rfl rfl rfl
      refine v_aload_n 14 1 rfl rfl rfl ?_
      have c8 := h.1
      have h := h.2
      refine v_pI 15 rfl ⟨fl11_207_3.r, fl11_207_5.r, fl11_207_9.r⟩ c8 ⟨rfl, rfl, rfl⟩ (x := g r1 5) rfl ?_
      refine v_rng fun w9 => ?_
      have p10 : i3 (g r1 5) := rPI w9 (q := 5) c8 rfl rfl rfl rfl
      refine v_icmp_ne 16 rfl (tgt := 48) rfl p7 p10 (fun q11 => ?_) (fun q11 => ?_)
      · have h := h.1 q11
        refine v_iconst 26 rfl ?_
        exact v_ret (v := some (I_ 0)) 27 rfl (Nat.zero_le _) (Nat.zero_le _) (Or.inl rfl) rfl h
      · have h := h.2 q11
        refine v_aload_n 17 0 rfl rfl rfl ?_
        refine v_aload_n 18 1 rfl rfl rfl ?_
        refine v_iload_n 19 2 rfl rfl rfl ?_
        refine v_iconst 20 rfl ?_
        refine v_iadd 21 rfl ?_
        refine v_callS (st := []) [.ref r0, .ref r1, I_ (x2 + 1)] 22 rfl ls11_344_areSidesAlike rfl (Nat.lt_of_lt_of_le (by decide) hn) (Nat.le_refl _) (Nat.le_refl _) ?_
        exact h
    · have h := h.2 q4
      refine v_aload_n 4 0 rfl rfl rfl ?_
      refine v_ifnonnull 5 rfl (tgt := 20) rfl (fun q12 => ?_) (fun q12 => ?_)
      · have h := h.1 q12
        refine v_iconst 10 rfl ?_
        exact v_ret (v := some (I_ 0)) 11 rfl (Nat.zero_le _) (Nat.zero_le _) (Or.inl rfl) rfl h
      · have h := h.2 q12
        refine v_aload_n 6 1 rfl rfl rfl ?_
        refine v_ifnonnull 7 rfl (tgt := 20) rfl (fun q13 => ?_) (fun q13 => ?_)
        · have h := h.1 q13
          refine v_iconst 10 rfl ?_
          exact v_ret (v := some (I_ 0)) 11 rfl (Nat.zero_le _) (Nat.zero_le _) (Or.inl rfl) rfl h
        · have h := h.2 q13
          refine v_iconst 8 rfl ?_
          refine v_goto 9 rfl (tgt := 21) rfl ?_
          exact v_ret (v := some (I_ 1)) 11 rfl (Nat.zero_le _) (Nat.zero_le _) (Or.inr rfl) rfl h
set_option maxHeartbeats 8000000 in
set_option maxRecDepth 4000 in
theorem bX11_areSidesAlike_41 {d n : Nat} {dy : Nat → Shp} {g : Hp} {P : Pst} {r0 : Nat} {r1 : Nat} {x2 : Int} {xs0 : Int} (hn : 100 ≤ n) (h : (i3 xs0) ∧ ((xs0 = 0) → P (some (I_ 0)) n (W0 dy) g) ∧ ((xs0 ≠ 0) → P (some (I_ 1)) n (W0 dy) g)) : V miX11_areSidesAlike (d + 1) 41 [(0, .ref r0), (1, .ref r1), (2, I_ x2)] [I_ xs0] n (W0 dy) g 0 0 P := by
  have c1 := h.1
  have h := h.2
  refine v_if_eq 23 rfl (tgt := 48) rfl c1 (fun q2 => ?_) (fun q2 => ?_)
  · have h := h.1 q2
    refine v_iconst 26 rfl ?_
    exact v_ret (v := some (I_ 0)) 27 rfl (Nat.zero_le _) (Nat.zero_le _) (Or.inl rfl) rfl h
  · have h := h.2 q2
    refine v_iconst 24 rfl ?_
    refine v_goto 25 rfl (tgt := 49) rfl ?_
    exact v_ret (v := some (I_ 1)) 27 rfl (Nat.zero_le _) (Nat.zero_le _) (Or.inr rfl) rfl h
theorem wX11_areSidesAlike {d n : Nat} {dy : Nat → Shp} {g : Hp} {P : Pst} {r0 : Nat} {r1 : Nat} {x2 : Int} (hn : 100 ≤ n) (h : ((r0 = 0) → ((0 < r0) → P (some (I_ 0)) n (W0 dy) g) ∧ ((r0 = 0) → ((0 < r1) → P (some (I_ 0)) n (W0 dy) g) ∧ ((r1 = 0) → P (some (I_ 1)) n (W0 dy) g))) ∧ ((0 < r0) → ((0 < r1) → (Pt n (W0 dy) r0) ∧ (Pt n (W0 dy) r1) ∧ (((g r0 5) ≠ (g r1 5)) → P (some (I_ 0)) n (W0 dy) g) ∧ (((g r0 5) = (g r1 5)) → Runs miX11_areAlike d [.ref r0, .ref r1, I_ (x2 + 1)] n (W0 dy) g (fun v n' S' g' => V miX11_areSidesAlike (d + 1) 41 [(0, .ref r0), (1, .ref r1), (2, I_ x2)] (v.toList ++ []) n' S' g' 0 0 P))) ∧ ((r1 = 0) → ((0 < r0) → P (some (I_ 0)) n (W0 dy) g) ∧ ((r0 = 0) → ((0 < r1) → P (some (I_ 0)) n (W0 dy) g) ∧ ((r1 = 0) → P (some (I_ 1)) n (W0 dy) g))))) : Runs miX11_areSidesAlike (d + 1) [.ref r0, .ref r1, I_ x2] n (W0 dy) g P := Runs.of rfl rfl deX11_areSidesAlike (Nat.le_of_ble_eq_true rfl) (bX11_areSidesAlike_0 hn h)
theorem lm11_433_commonDivisor : LkM miX11_commonDivisor 433 Lib.MathLoose.abs_long.x Lib.MathLoose.abs_long.code 2 .long := ⟨tbG_in (List.mem_append_right _ (List.mem_of_getElem? (i := 567) (by decide +kernel))) rfl, tbG_in (List.mem_append_right _ (List.mem_of_getElem? (i := 568) (by decide +kernel))) rfl, tbG_in (List.mem_append_right _ (List.mem_of_getElem? (i := 15) (by decide +kernel))) rfl, tbG_in (List.mem_append_right _ (List.mem_of_getElem? (i := 569) (by decide +kernel))) rfl⟩
set_option maxHeartbeats 8000000 in
set_option maxRecDepth 4000 in
theorem bX11_commonDivisor_0 {d n : Nat} {dy : Nat → Shp} {g : Hp} {P : Pst} {x0 : Int} {x2 : Int} (hn : 100 ≤ n) (h : (i6 x0) ∧ (i6 x2) ∧ V miX11_commonDivisor (d + 1) 15 [(0, L_ x0), (2, L_ x2), (4, L_ (ab x0)), (6, L_ (ab x2)), (8, I_ 0)] [] n (W0 dy) g 0 0 P) : V miX11_commonDivisor (d + 1) 0 [(0, L_ x0), (2, L_ x2)] [] n (W0 dy) g 0 0 P := by
  refine v_lload_n 0 0 rfl rfl rfl ?_
  have c1 := h.1
  have h := h.2
  refine v_mabsl (st := []) 1 rfl lm11_433_commonDivisor rfl (Nat.zero_le _) (Nat.zero_le _) c1 ?_
  refine v_lstore 2 [1, 2, 0] rfl (by decide) rfl ?_
  refine v_lload_n 3 1 rfl rfl rfl ?_
  have c2 := h.1
  have h := h.2
  refine v_mabsl (st := []) 4 rfl lm11_433_commonDivisor rfl (Nat.zero_le _) (Nat.zero_le _) c2 ?_
  refine v_lstore 5 [1, 2, 3, 0] rfl (by decide) rfl ?_
  refine v_iconst 6 rfl ?_
  refine v_istore 7 [1, 2, 3, 4, 0] rfl (by decide) rfl ?_
  exact h
set_option maxHeartbeats 8000000 in
set_option maxRecDepth 4000 in
theorem bX11_commonDivisor_15 {d n : Nat} {dy : Nat → Shp} {g : Hp} {P : Pst} {x0 : Int} {x2 : Int} {x4 : Int} {x6 : Int} {x8 : Int} (hn : 100 ≤ n) (h : (i3 x8) ∧ ((200 ≤ x8) → (i6 x4) ∧ ((x4 ≠ 0) → P (some (L_ x4)) n (W0 dy) g) ∧ ((x4 = 0) → P (some (L_ 1)) n (W0 dy) g)) ∧ ((x8 < 200) → (i6 x6) ∧ ((x6 = 0) → (i6 x4) ∧ ((x4 ≠ 0) → P (some (L_ x4)) n (W0 dy) g) ∧ ((x4 = 0) → P (some (L_ 1)) n (W0 dy) g)) ∧ ((x6 ≠ 0) → (i6 x4) ∧ (x6 ≠ 0) ∧ V miX11_commonDivisor (d + 1) 15 [(0, L_ x0), (2, L_ x2), (4, L_ x6), (6, L_ (x4.tmod x6)), (8, I_ (x8 + 1))] [] n (W0 dy) g 0 0 P))) : V miX11_commonDivisor (d + 1) 15 [(0, L_ x0), (2, L_ x2), (4, L_ x4), (6, L_ x6), (8, I_ x8)] [] n (W0 dy) g 0 0 P := by
  refine v_iload 8 4 rfl rfl ?_
  refine v_sipush 9 rfl (by decide) ?_
  have c1 := h.1
  have h := h.2
  refine v_icmp_ge 10 rfl (tgt := 51) rfl c1 (by decide) (fun q2 => ?_) (fun q2 => ?_)
  · have h := h.1 q2
    refine v_lload 25 2 rfl rfl ?_
    refine v_lconst (v := 0) 26 rfl (by decide) ?_
    have c3 := h.1
    have h := h.2
    refine v_lif_ne 27 rfl rfl (tgt := 62) rfl c3 (by decide) (fun q4 => ?_) (fun q4 => ?_)
    · have h := h.1 q4
      refine v_lload 31 2 rfl rfl ?_
      exact v_ret (v := some (L_ x4)) 32 rfl (Nat.zero_le _) (Nat.zero_le _) trivial rfl h
    · have h := h.2 q4
      refine v_lconst (v := 1) 29 rfl (by decide) ?_
      refine v_goto 30 rfl (tgt := 64) rfl ?_
      exact v_ret (v := some (L_ 1)) 32 rfl (Nat.zero_le _) (Nat.zero_le _) trivial rfl h
  · have h := h.2 q2
    refine v_lload 11 3 rfl rfl ?_
    refine v_lconst (v := 0) 12 rfl (by decide) ?_
    have c5 := h.1
    have h := h.2
    refine v_lif_eq 13 rfl rfl (tgt := 51) rfl c5 (by decide) (fun q6 => ?_) (fun q6 => ?_)
    · have h := h.1 q6
      refine v_lload 25 2 rfl rfl ?_
      refine v_lconst (v := 0) 26 rfl (by decide) ?_
      have c7 := h.1
      have h := h.2
      refine v_lif_ne 27 rfl rfl (tgt := 62) rfl c7 (by decide) (fun q8 => ?_) (fun q8 => ?_)
      · have h := h.1 q8
        refine v_lload 31 2 rfl rfl ?_
        exact v_ret (v := some (L_ x4)) 32 rfl (Nat.zero_le _) (Nat.zero_le _) trivial rfl h
      · have h := h.2 q8
        refine v_lconst (v := 1) 29 rfl (by decide) ?_
        refine v_goto 30 rfl (tgt := 64) rfl ?_
        exact v_ret (v := some (L_ 1)) 32 rfl (Nat.zero_le _) (Nat.zero_le _) trivial rfl h
    · have h := h.2 q6
      refine v_lload 15 2 rfl rfl ?_
      refine v_lload 16 3 rfl rfl ?_
      have c9 := h.1
      have h := h.2
      have c10 := h.1
      have h := h.2
      refine v_lrem 17 rfl c9 c5 c10 ?_
      refine v_lstore 18 [1, 2, 3, 4, 5, 0] rfl (by decide) rfl ?_
      refine v_lload 19 3 rfl rfl ?_
      refine v_lstore 20 [1, 2, 0, 3, 4, 5] rfl (by decide) rfl ?_
      refine v_lload 21 5 rfl rfl ?_
      refine v_lstore 22 [1, 2, 3, 0, 4, 5] rfl (by decide) rfl ?_
      refine v_iinc 23 4 [1, 2, 3, 4, 0, 5] rfl rfl (by decide) rfl ?_
      refine v_goto 24 rfl (tgt := 15) rfl ?_
      refine v_loc [0, 1, 2, 3, 4] rfl ?_
      exact h
theorem wX11_commonDivisor {d n : Nat} {dy : Nat → Shp} {g : Hp} {P : Pst} {x0 : Int} {x2 : Int} (hn : 100 ≤ n) (h : (i6 x0) ∧ (i6 x2) ∧ V miX11_commonDivisor (d + 1) 15 [(0, L_ x0), (2, L_ x2), (4, L_ (ab x0)), (6, L_ (ab x2)), (8, I_ 0)] [] n (W0 dy) g 0 0 P) : Runs miX11_commonDivisor (d + 1) [L_ x0, L_ x2] n (W0 dy) g P := Runs.of rfl rfl deX11_commonDivisor (Nat.le_of_ble_eq_true rfl) (bX11_commonDivisor_0 hn h)
set_option maxHeartbeats 8000000 in
set_option maxRecDepth 4000 in
theorem bJ6_compare_7cf53_0 {d n : Nat} {dy : Nat → Shp} {g : Hp} {P : Pst} {x0 : Int} {x1 : Int} (hn : 100 ≤ n) (h : (i3 x0) ∧ (i3 x1) ∧ ((x1 ≤ x0) → ((x0 ≠ x1) → P (some (I_ 1)) n (W0 dy) g) ∧ ((x0 = x1) → P (some (I_ 0)) n (W0 dy) g)) ∧ ((x0 < x1) → P (some (I_ ((-1)))) n (W0 dy) g)) : V miJ6_compare_7cf53 d 0 [(0, I_ x0), (1, I_ x1)] [] n (W0 dy) g 0 0 P := by
  refine v_iload_n 0 0 rfl rfl rfl ?_
  refine v_iload_n 1 1 rfl rfl rfl ?_
  have c1 := h.1
  have h := h.2
  have c2 := h.1
  have h := h.2
  refine v_icmp_ge 2 rfl (tgt := 9) rfl c1 c2 (fun q3 => ?_) (fun q3 => ?_)
  · have h := h.1 q3
    refine v_iload_n 5 0 rfl rfl rfl ?_
    refine v_iload_n 6 1 rfl rfl rfl ?_
    refine v_icmp_ne 7 rfl (tgt := 18) rfl c1 c2 (fun q4 => ?_) (fun q4 => ?_)
    · have h := h.1 q4
      refine v_iconst 10 rfl ?_
      exact v_ret (v := some (I_ 1)) 11 rfl (Nat.zero_le _) (Nat.zero_le _) trivial rfl h
    · have h := h.2 q4
      refine v_iconst 8 rfl ?_
      refine v_goto 9 rfl (tgt := 19) rfl ?_
      exact v_ret (v := some (I_ 0)) 11 rfl (Nat.zero_le _) (Nat.zero_le _) trivial rfl h
  · have h := h.2 q3
    refine v_iconst 3 rfl ?_
    refine v_goto 4 rfl (tgt := 19) rfl ?_
    exact v_ret (v := some (I_ ((-1)))) 11 rfl (Nat.zero_le _) (Nat.zero_le _) trivial rfl h
theorem wJ6_compare_7cf53 {d n : Nat} {dy : Nat → Shp} {g : Hp} {P : Pst} {x0 : Int} {x1 : Int} (hn : 100 ≤ n) (h : (i3 x0) ∧ (i3 x1) ∧ ((x1 ≤ x0) → ((x0 ≠ x1) → P (some (I_ 1)) n (W0 dy) g) ∧ ((x0 = x1) → P (some (I_ 0)) n (W0 dy) g)) ∧ ((x0 < x1) → P (some (I_ ((-1)))) n (W0 dy) g)) : Runs miJ6_compare_7cf53 d [I_ x0, I_ x1] n (W0 dy) g P := Runs.of rfl rfl deJ6_compare_7cf53 (Nat.le_of_ble_eq_true rfl) (bJ6_compare_7cf53_0 hn h)
set_option maxHeartbeats 8000000 in
set_option maxRecDepth 4000 in
theorem bJ6_bitCount_0f7a4_0 {d n : Nat} {dy : Nat → Shp} {g : Hp} {P : Pst} {x0 : Int} (hn : 100 ≤ n) (h : ∀ y1 : Int, y1 = x0 - (and3 (ushr3 x0 1) 1431655765) → ∀ y2 : Int, y2 = (and3 y1 858993459) + (and3 (ushr3 y1 2) 858993459) → ∀ y3 : Int, y3 = and3 (y2 + (ushr3 y2 4)) 252645135 → ∀ y4 : Int, y4 = (y3 + (ushr3 y3 8)) + (ushr3 (y3 + (ushr3 y3 8)) 16) → P (some (I_ (and3 y4 63))) n (W0 dy) g) : V miJ6_bitCount_0f7a4 d 0 [(0, I_ x0)] [] n (W0 dy) g 0 0 P := by
  refine v_iload_n 0 0 rfl rfl rfl ?_
  refine v_iload_n 1 0 rfl rfl rfl ?_
  refine v_iconst 2 rfl ?_
  refine v_iushr 3 rfl ?_
  refine v_ldcw (v := 1431655765) 4 rfl (tbG_in (List.mem_append_right _ (List.mem_of_getElem? (i := 1630) (by decide +kernel))) rfl) ?_
  refine v_iand 5 rfl ?_
  refine v_isub 6 rfl ?_
  refine v_nmI (fun y1 ey1 => ?_)
  have h := h y1 ey1
  refine v_istore_n 7 [0] rfl rfl (by decide) rfl ?_
  refine v_iload_n 8 0 rfl rfl rfl ?_
  refine v_ldcw (v := 858993459) 9 rfl (tbG_in (List.mem_append_right _ (List.mem_of_getElem? (i := 1631) (by decide +kernel))) rfl) ?_
  refine v_iand 10 rfl ?_
  refine v_iload_n 11 0 rfl rfl rfl ?_
  refine v_iconst 12 rfl ?_
  refine v_iushr 13 rfl ?_
  refine v_ldcw (v := 858993459) 14 rfl (tbG_in (List.mem_append_right _ (List.mem_of_getElem? (i := 1631) (by decide +kernel))) rfl) ?_
  refine v_iand 15 rfl ?_
  refine v_iadd 16 rfl ?_
  refine v_nmI (fun y2 ey2 => ?_)
  have h := h y2 ey2
  refine v_istore_n 17 [0] rfl rfl (by decide) rfl ?_
  refine v_iload_n 18 0 rfl rfl rfl ?_
  refine v_iload_n 19 0 rfl rfl rfl ?_
  refine v_iconst 20 rfl ?_
  refine v_iushr 21 rfl ?_
  refine v_iadd 22 rfl ?_
  refine v_ldcw (v := 252645135) 23 rfl (tbG_in (List.mem_append_right _ (List.mem_of_getElem? (i := 1632) (by decide +kernel))) rfl) ?_
  refine v_iand 24 rfl ?_
  refine v_nmI (fun y3 ey3 => ?_)
  have h := h y3 ey3
  have ry3 : i3 y3 := by rw [ey3]; exact (and3_r _ _)
  refine v_istore_n 25 [0] rfl rfl (by decide) rfl ?_
  refine v_iload_n 26 0 rfl rfl rfl ?_
  refine v_iload_n 27 0 rfl rfl rfl ?_
  refine v_bipush 28 rfl (by decide) ?_
  refine v_iushr 29 rfl ?_
  refine v_iadd 30 rfl ?_
  refine v_istore_n 31 [0] rfl rfl (by decide) rfl ?_
  refine v_iload_n 32 0 rfl rfl rfl ?_
  refine v_iload_n 33 0 rfl rfl rfl ?_
  refine v_bipush 34 rfl (by decide) ?_
  refine v_iushr 35 rfl ?_
  refine v_iadd 36 rfl ?_
  refine v_nmI (fun y4 ey4 => ?_)
  have h := h y4 ey4
  refine v_istore_n 37 [0] rfl rfl (by decide) rfl ?_
  refine v_iload_n 38 0 rfl rfl rfl ?_
  refine v_bipush 39 rfl (by decide) ?_
  refine v_iand 40 rfl ?_
  exact v_ret (v := some (I_ (and3 y4 63))) 41 rfl (Nat.zero_le _) (Nat.zero_le _) trivial rfl h
theorem wJ6_bitCount_0f7a4 {d n : Nat} {dy : Nat → Shp} {g : Hp} {P : Pst} {x0 : Int} (hn : 100 ≤ n) (h : ∀ y1 : Int, y1 = x0 - (and3 (ushr3 x0 1) 1431655765) → ∀ y2 : Int, y2 = (and3 y1 858993459) + (and3 (ushr3 y1 2) 858993459) → ∀ y3 : Int, y3 = and3 (y2 + (ushr3 y2 4)) 252645135 → ∀ y4 : Int, y4 = (y3 + (ushr3 y3 8)) + (ushr3 (y3 + (ushr3 y3 8)) 16) → P (some (I_ (and3 y4 63))) n (W0 dy) g) : Runs miJ6_bitCount_0f7a4 d [I_ x0] n (W0 dy) g P := Runs.of rfl rfl deJ6_bitCount_0f7a4 (Nat.le_of_ble_eq_true rfl) (bJ6_bitCount_0f7a4_0 hn h)
set_option maxHeartbeats 8000000 in
set_option maxRecDepth 4000 in
theorem bJ7_fill_d0a16_0 {d n N : Nat} {dy : Nat → Shp} {g : Hp} {P : Pst} {r0 : Nat} {x1 : Int} (hn : 100 ≤ n) (h : (Ar n (W0 dy) r0 14 N ∧ N ≤ 100000) ∧ V miJ7_fill_d0a16 d 6 [(0, .ref r0), (1, L_ x1), (3, I_ 0), (4, I_ (((N : Nat) : Int)))] [] n (W0 dy) g 0 0 P) : V miJ7_fill_d0a16 d 0 [(0, .ref r0), (1, L_ x1)] [] n (W0 dy) g 0 0 P := by
  refine v_iconst 0 rfl ?_
  refine v_istore_n 1 [1, 2, 0] rfl rfl (by decide) rfl ?_
  refine v_aload_n 2 0 rfl rfl rfl ?_
  have c1 := h.1
  have h := h.2
  refine v_alen (N := N) (t := 14) 3 rfl c1.1.1 c1.1.2.1 (by decide) (fun _ => rfl) c1.1.2.2 ?_
  refine v_istore 4 [1, 2, 3, 0] rfl (by decide) rfl ?_
  exact h
set_option maxHeartbeats 8000000 in
set_option maxRecDepth 4000 in
theorem bJ7_fill_d0a16_6 {d n N : Nat} {dy : Nat → Shp} {g : Hp} {P : Pst} {r0 : Nat} {x1 : Int} {x3 : Int} {x4 : Int} (hn : 100 ≤ n) (h : (i3 x3) ∧ (i3 x4) ∧ ((x4 ≤ x3) → P none n (W0 dy) g) ∧ ((x3 < x4) → (Ar n (W0 dy) r0 14 N ∧ N ≤ 100000) ∧ (0 ≤ x3 ∧ x3 < N) ∧ (i6 x1) ∧ V miJ7_fill_d0a16 d 6 [(0, .ref r0), (1, L_ x1), (3, I_ (x3 + 1)), (4, I_ x4)] [] n (W0 dy) (up2 g r0 x3.toNat x1) 0 0 P)) : V miJ7_fill_d0a16 d 6 [(0, .ref r0), (1, L_ x1), (3, I_ x3), (4, I_ x4)] [] n (W0 dy) g 0 0 P := by
  refine v_iload_n 5 2 rfl rfl rfl ?_
  refine v_iload 6 3 rfl rfl ?_
  have c1 := h.1
  have h := h.2
  have c2 := h.1
  have h := h.2
  refine v_icmp_ge 7 rfl (tgt := 22) rfl c1 c2 (fun q3 => ?_) (fun q3 => ?_)
  · have h := h.1 q3
    exact v_ret (v := none) 14 rfl (Nat.zero_le _) (Nat.zero_le _) trivial rfl h
  · have h := h.2 q3
    refine v_aload_n 8 0 rfl rfl rfl ?_
    refine v_iload_n 9 2 rfl rfl rfl ?_
    refine v_lload_n 10 1 rfl rfl rfl ?_
    have c4 := h.1
    have h := h.2
    have c5 := h.1
    have h := h.2
    have c6 := h.1
    have h := h.2
    refine v_last (N := N) 11 rfl c4.1.1 c4.1.2.1 c4.1.2.2 c4.2 c5 c6 ?_
    refine v_iinc 12 2 [1, 2, 0, 3] rfl rfl (by decide) rfl ?_
    refine v_goto 13 rfl (tgt := 6) rfl ?_
    exact h
theorem wJ7_fill_d0a16 {d n N : Nat} {dy : Nat → Shp} {g : Hp} {P : Pst} {r0 : Nat} {x1 : Int} (hn : 100 ≤ n) (h : (Ar n (W0 dy) r0 14 N ∧ N ≤ 100000) ∧ V miJ7_fill_d0a16 d 6 [(0, .ref r0), (1, L_ x1), (3, I_ 0), (4, I_ (((N : Nat) : Int)))] [] n (W0 dy) g 0 0 P) : Runs miJ7_fill_d0a16 d [.ref r0, L_ x1] n (W0 dy) g P := Runs.of rfl rfl deJ7_fill_d0a16 (Nat.le_of_ble_eq_true rfl) (bJ7_fill_d0a16_0 hn h)
set_option maxHeartbeats 8000000 in
set_option maxRecDepth 4000 in
theorem bJ7_fill_53178_0 {d n N : Nat} {dy : Nat → Shp} {g : Hp} {P : Pst} {r0 : Nat} {x1 : Int} (hn : 100 ≤ n) (h : (Ar n (W0 dy) r0 13 N ∧ N ≤ 100000) ∧ V miJ7_fill_53178 d 5 [(0, .ref r0), (1, I_ x1), (2, I_ 0), (3, I_ (((N : Nat) : Int)))] [] n (W0 dy) g 0 0 P) : V miJ7_fill_53178 d 0 [(0, .ref r0), (1, I_ x1)] [] n (W0 dy) g 0 0 P := by
  refine v_iconst 0 rfl ?_
  refine v_istore_n 1 [1, 2, 0] rfl rfl (by decide) rfl ?_
  refine v_aload_n 2 0 rfl rfl rfl ?_
  have c1 := h.1
  have h := h.2
  refine v_alen (N := N) (t := 13) 3 rfl c1.1.1 c1.1.2.1 (by decide) (fun _ => rfl) c1.1.2.2 ?_
  refine v_istore_n 4 [1, 2, 3, 0] rfl rfl (by decide) rfl ?_
  exact h
set_option maxHeartbeats 8000000 in
set_option maxRecDepth 4000 in
theorem bJ7_fill_53178_5 {d n N : Nat} {dy : Nat → Shp} {g : Hp} {P : Pst} {r0 : Nat} {x1 : Int} {x2 : Int} {x3 : Int} (hn : 100 ≤ n) (h : (i3 x2) ∧ (i3 x3) ∧ ((x3 ≤ x2) → P none n (W0 dy) g) ∧ ((x2 < x3) → (Ar n (W0 dy) r0 13 N ∧ N ≤ 100000) ∧ (0 ≤ x2 ∧ x2 < N) ∧ (i3 x1) ∧ V miJ7_fill_53178 d 5 [(0, .ref r0), (1, I_ x1), (2, I_ (x2 + 1)), (3, I_ x3)] [] n (W0 dy) (up2 g r0 x2.toNat x1) 0 0 P)) : V miJ7_fill_53178 d 5 [(0, .ref r0), (1, I_ x1), (2, I_ x2), (3, I_ x3)] [] n (W0 dy) g 0 0 P := by
  refine v_iload_n 5 2 rfl rfl rfl ?_
  refine v_iload_n 6 3 rfl rfl rfl ?_
  have c1 := h.1
  have h := h.2
  have c2 := h.1
  have h := h.2
  refine v_icmp_ge 7 rfl (tgt := 20) rfl c1 c2 (fun q3 => ?_) (fun q3 => ?_)
  · have h := h.1 q3
    exact v_ret (v := none) 14 rfl (Nat.zero_le _) (Nat.zero_le _) trivial rfl h
  · have h := h.2 q3
    refine v_aload_n 8 0 rfl rfl rfl ?_
    refine v_iload_n 9 2 rfl rfl rfl ?_
    refine v_iload_n 10 1 rfl rfl rfl ?_
    have c4 := h.1
    have h := h.2
    have c5 := h.1
    have h := h.2
    have c6 := h.1
    have h := h.2
    refine v_iast (N := N) 11 rfl c4.1.1 c4.1.2.1 c4.1.2.2 c4.2 c5 c6 ?_
    refine v_iinc 12 2 [1, 2, 0, 3] rfl rfl (by decide) rfl ?_
    refine v_goto 13 rfl (tgt := 5) rfl ?_
    exact h
theorem wJ7_fill_53178 {d n N : Nat} {dy : Nat → Shp} {g : Hp} {P : Pst} {r0 : Nat} {x1 : Int} (hn : 100 ≤ n) (h : (Ar n (W0 dy) r0 13 N ∧ N ≤ 100000) ∧ V miJ7_fill_53178 d 5 [(0, .ref r0), (1, I_ x1), (2, I_ 0), (3, I_ (((N : Nat) : Int)))] [] n (W0 dy) g 0 0 P) : Runs miJ7_fill_53178 d [.ref r0, I_ x1] n (W0 dy) g P := Runs.of rfl rfl deJ7_fill_53178 (Nat.le_of_ble_eq_true rfl) (bJ7_fill_53178_0 hn h)
