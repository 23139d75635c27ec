def maX11_newWeight : MI := (miX11_newWeight.1, miX11_newWeight.2.1, (1, 10), miX11_newWeight.2.2.2)
def maX11_rod : MI := (miX11_rod.1, miX11_rod.2.1, (1, 16), miX11_rod.2.2.2)
def maX11_plate : MI := (miX11_plate.1, miX11_plate.2.1, (1, 14), miX11_plate.2.2.2)
def maX11_weight : MI := (miX11_weight.1, miX11_weight.2.1, (1, 10), miX11_weight.2.2.2)
def maX11_load : MI := (miX11_load.1, miX11_load.2.1, (1, 10), miX11_load.2.2.2)
def dyu (dy : Nat → Shp) (n ci : Nat) : Nat → Shp := fun i => if i = n then (ci, 0, fun _ => none) else dy i
theorem stab_none {i : Nat} (h : 100 ≤ i) : stab[i]? = none := List.getElem?_eq_none h
theorem W0_dyn {dy : Nat → Shp} {n : Nat} (ci : Nat) (hn : 100 ≤ n) : W0 (dyu dy n ci) n = (ci, 0, fun _ => none) := by
  unfold W0
  rw [stab_none hn]
  exact if_pos rfl
theorem W0_dyu {dy : Nat → Shp} {n i : Nat} (ci : Nat) (h : i ≠ n) (_ : 100 ≤ n) : W0 (dyu dy n ci) i = W0 dy i := by
  unfold W0
  split
  · rfl
  · exact if_neg h
theorem ob_new {dy : Nat → Shp} {n : Nat} (ci : Nat) (hn : 100 ≤ n) : Ob (n + 1) (W0 (dyu dy n ci)) n ci := by
  refine ⟨⟨by omega, by omega⟩, ?_, fun q => ?_⟩
  · rw [W0_dyn ci hn]
  · rw [W0_dyn ci hn]
theorem fl2_22_3 : FL RX2 22 3 6 false .long := ⟨RX4, TX4, 14, "MobileMaker$Part", rfl, rfl, by decide, kf3, tbG_in (List.mem_append_right _ (List.mem_of_getElem? (i := 384) (by decide +kernel))) rfl, Or.inl rfl, rfl, by decide +kernel, ⟨tyX4, tyX4_ok⟩, nmX4, fun h => by cases h⟩
theorem fl2_22_5 : FL RX2 22 5 6 false .long := ⟨RX6, TX6, 16, "MobileMaker$Part", rfl, rfl, by decide, kf5, tbG_in (List.mem_append_right _ (List.mem_of_getElem? (i := 384) (by decide +kernel))) rfl, Or.inl rfl, rfl, by decide +kernel, ⟨tyX6, tyX6_ok⟩, nmX6, fun h => by cases h⟩
theorem fl2_22_9 : FL RX2 22 9 6 false .long := ⟨RX10, TX10, 10, "MobileMaker$Part", rfl, rfl, by decide, kf9, tbG_in (List.mem_append_right _ (List.mem_of_getElem? (i := 384) (by decide +kernel))) rfl, Or.inl rfl, rfl, by decide +kernel, ⟨tyX10, tyX10_ok⟩, nmX10, fun h => by cases h⟩
theorem fl2_26_3 : FL RX2 26 3 7 false .int := ⟨RX4, TX4, 14, "MobileMaker$Part", rfl, rfl, by decide, kf3, tbG_in (List.mem_append_right _ (List.mem_of_getElem? (i := 390) (by decide +kernel))) rfl, Or.inl rfl, rfl, by decide +kernel, ⟨tyX4, tyX4_ok⟩, nmX4, fun h => by cases h⟩
theorem fl2_26_5 : FL RX2 26 5 7 false .int := ⟨RX6, TX6, 16, "MobileMaker$Part", rfl, rfl, by decide, kf5, tbG_in (List.mem_append_right _ (List.mem_of_getElem? (i := 390) (by decide +kernel))) rfl, Or.inl rfl, rfl, by decide +kernel, ⟨tyX6, tyX6_ok⟩, nmX6, fun h => by cases h⟩
theorem fl2_26_9 : FL RX2 26 9 7 false .int := ⟨RX10, TX10, 10, "MobileMaker$Part", rfl, rfl, by decide, kf9, tbG_in (List.mem_append_right _ (List.mem_of_getElem? (i := 390) (by decide +kernel))) rfl, Or.inl rfl, rfl, by decide +kernel, ⟨tyX10, tyX10_ok⟩, nmX10, fun h => by cases h⟩
theorem fl2_29_3 : FL RX2 29 3 8 false .long := ⟨RX4, TX4, 14, "MobileMaker$Part", rfl, rfl, by decide, kf3, tbG_in (List.mem_append_right _ (List.mem_of_getElem? (i := 396) (by decide +kernel))) rfl, Or.inl rfl, rfl, by decide +kernel, ⟨tyX4, tyX4_ok⟩, nmX4, fun h => by cases h⟩
theorem fl2_29_5 : FL RX2 29 5 8 false .long := ⟨RX6, TX6, 16, "MobileMaker$Part", rfl, rfl, by decide, kf5, tbG_in (List.mem_append_right _ (List.mem_of_getElem? (i := 396) (by decide +kernel))) rfl, Or.inl rfl, rfl, by decide +kernel, ⟨tyX6, tyX6_ok⟩, nmX6, fun h => by cases h⟩
theorem fl2_29_9 : FL RX2 29 9 8 false .long := ⟨RX10, TX10, 10, "MobileMaker$Part", rfl, rfl, by decide, kf9, tbG_in (List.mem_append_right _ (List.mem_of_getElem? (i := 396) (by decide +kernel))) rfl, Or.inl rfl, rfl, by decide +kernel, ⟨tyX10, tyX10_ok⟩, nmX10, fun h => by cases h⟩
theorem fl2_32_3 : FL RX2 32 3 9 false .long := ⟨RX4, TX4, 14, "MobileMaker$Part", rfl, rfl, by decide, kf3, tbG_in (List.mem_append_right _ (List.mem_of_getElem? (i := 402) (by decide +kernel))) rfl, Or.inl rfl, rfl, by decide +kernel, ⟨tyX4, tyX4_ok⟩, nmX4, fun h => by cases h⟩
theorem fl2_32_5 : FL RX2 32 5 9 false .long := ⟨RX6, TX6, 16, "MobileMaker$Part", rfl, rfl, by decide, kf5, tbG_in (List.mem_append_right _ (List.mem_of_getElem? (i := 402) (by decide +kernel))) rfl, Or.inl rfl, rfl, by decide +kernel, ⟨tyX6, tyX6_ok⟩, nmX6, fun h => by cases h⟩
theorem fl2_32_9 : FL RX2 32 9 9 false .long := ⟨RX10, TX10, 10, "MobileMaker$Part", rfl, rfl, by decide, kf9, tbG_in (List.mem_append_right _ (List.mem_of_getElem? (i := 402) (by decide +kernel))) rfl, Or.inl rfl, rfl, by decide +kernel, ⟨tyX10, tyX10_ok⟩, nmX10, fun h => by cases h⟩
theorem fl2_38_3 : FL RX2 38 3 1 true .int := ⟨RX4, TX4, 14, "MobileMaker$Part", rfl, rfl, by decide, kf3, tbG_in (List.mem_append_right _ (List.mem_of_getElem? (i := 351) (by decide +kernel))) rfl, Or.inl rfl, rfl, by decide +kernel, ⟨tyX4, tyX4_ok⟩, nmX4, fun _ => rfl⟩
theorem fl2_38_5 : FL RX2 38 5 1 true .int := ⟨RX6, TX6, 16, "MobileMaker$Part", rfl, rfl, by decide, kf5, tbG_in (List.mem_append_right _ (List.mem_of_getElem? (i := 351) (by decide +kernel))) rfl, Or.inl rfl, rfl, by decide +kernel, ⟨tyX6, tyX6_ok⟩, nmX6, fun _ => rfl⟩
theorem fl2_38_9 : FL RX2 38 9 1 true .int := ⟨RX10, TX10, 10, "MobileMaker$Part", rfl, rfl, by decide, kf9, tbG_in (List.mem_append_right _ (List.mem_of_getElem? (i := 351) (by decide +kernel))) rfl, Or.inl rfl, rfl, by decide +kernel, ⟨tyX10, tyX10_ok⟩, nmX10, fun _ => rfl⟩
theorem fl2_41_3 : FL RX2 41 3 2 true .int := ⟨RX4, TX4, 14, "MobileMaker$Part", rfl, rfl, by decide, kf3, tbG_in (List.mem_append_right _ (List.mem_of_getElem? (i := 357) (by decide +kernel))) rfl, Or.inl rfl, rfl, by decide +kernel, ⟨tyX4, tyX4_ok⟩, nmX4, fun _ => rfl⟩
theorem fl2_41_5 : FL RX2 41 5 2 true .int := ⟨RX6, TX6, 16, "MobileMaker$Part", rfl, rfl, by decide, kf5, tbG_in (List.mem_append_right _ (List.mem_of_getElem? (i := 357) (by decide +kernel))) rfl, Or.inl rfl, rfl, by decide +kernel, ⟨tyX6, tyX6_ok⟩, nmX6, fun _ => rfl⟩
theorem fl2_41_9 : FL RX2 41 9 2 true .int := ⟨RX10, TX10, 10, "MobileMaker$Part", rfl, rfl, by decide, kf9, tbG_in (List.mem_append_right _ (List.mem_of_getElem? (i := 357) (by decide +kernel))) rfl, Or.inl rfl, rfl, by decide +kernel, ⟨tyX10, tyX10_ok⟩, nmX10, fun _ => rfl⟩
set_option maxHeartbeats 8000000 in
set_option maxRecDepth 4000 in
theorem bX2_init_0 {d n : Nat} {dy : Nat → Shp} {g : Hp} {P : Pst} {r0 : Nat} {x1 : Int} {x2 : Int} {x3 : Int} (hn : 100 ≤ n) (h : (Pt n (W0 dy) r0) ∧ (i3 x1) ∧ (i3 x2) ∧ (i3 x3) ∧ P none n (W0 dy) (up2 (up2 (up2 (up2 (up2 (up2 (up2 (up2 (up2 (up2 g r0 3 (((0 : Nat) : Int))) r0 4 ((-1))) r0 5 0) r0 6 0) r0 7 0) r0 8 0) r0 9 0) r0 0 x1) r0 1 x2) r0 2 x3)) : V miX2_init (d + 1) 0 [(0, .ref r0), (1, I_ x1), (2, I_ x2), (3, I_ x3)] [] n (W0 dy) g 0 0 P := by
  refine v_aload_n 0 0 rfl rfl rfl ?_
  have c1 := h.1
  have h := h.2
  refine v_objInit 1 rfl (tbG_in (List.mem_append_right _ (List.mem_of_getElem? (i := 345) (by decide +kernel))) rfl) (tbG_in (List.mem_append_right _ (List.mem_of_getElem? (i := 28) (by decide +kernel))) rfl) (tbG_in (List.mem_append_right _ (List.mem_of_getElem? (i := 29) (by decide +kernel))) rfl) c1.1.1 rfl ?_
  refine v_aload_n 2 0 rfl rfl rfl ?_
  refine v_null 3 rfl ?_
  refine v_qR 4 rfl ⟨fl2_9_3, fl2_9_5, fl2_9_9⟩ c1 ⟨rfl, rfl, rfl⟩ ?_
  refine v_aload_n 5 0 rfl rfl rfl ?_
  refine v_iconst 6 rfl ?_
  refine v_qI 7 rfl ⟨fl2_15_3, fl2_15_5, fl2_15_9⟩ c1 ⟨rfl, rfl, rfl⟩ (by decide) ?_
  refine v_aload_n 8 0 rfl rfl rfl ?_
  refine v_iconst 9 rfl ?_
  refine v_qI 10 rfl ⟨fl2_19_3, fl2_19_5, fl2_19_9⟩ c1 ⟨rfl, rfl, rfl⟩ (by decide) ?_
  refine v_aload_n 11 0 rfl rfl rfl ?_
  refine v_lconst (v := 0) 12 rfl (by decide) ?_
  refine v_qL 13 rfl ⟨fl2_22_3, fl2_22_5, fl2_22_9⟩ c1 ⟨rfl, rfl, rfl⟩ (by decide) ?_
  refine v_aload_n 14 0 rfl rfl rfl ?_
  refine v_iconst 15 rfl ?_
  refine v_qI 16 rfl ⟨fl2_26_3, fl2_26_5, fl2_26_9⟩ c1 ⟨rfl, rfl, rfl⟩ (by decide) ?_
  refine v_aload_n 17 0 rfl rfl rfl ?_
  refine v_lconst (v := 0) 18 rfl (by decide) ?_
  refine v_qL 19 rfl ⟨fl2_29_3, fl2_29_5, fl2_29_9⟩ c1 ⟨rfl, rfl, rfl⟩ (by decide) ?_
  refine v_aload_n 20 0 rfl rfl rfl ?_
  refine v_lconst (v := 0) 21 rfl (by decide) ?_
  refine v_qL 22 rfl ⟨fl2_32_3, fl2_32_5, fl2_32_9⟩ c1 ⟨rfl, rfl, rfl⟩ (by decide) ?_
  refine v_aload_n 23 0 rfl rfl rfl ?_
  refine v_iload_n 24 1 rfl rfl rfl ?_
  have c2 := h.1
  have h := h.2
  refine v_qFI 25 rfl ⟨fl2_35_3, fl2_35_5, fl2_35_9⟩ c1 ⟨rfl, rfl, rfl⟩ rfl c2 ?_
  refine v_aload_n 26 0 rfl rfl rfl ?_
  refine v_iload_n 27 2 rfl rfl rfl ?_
  have c3 := h.1
  have h := h.2
  refine v_qFI 28 rfl ⟨fl2_38_3, fl2_38_5, fl2_38_9⟩ c1 ⟨rfl, rfl, rfl⟩ rfl c3 ?_
  refine v_aload_n 29 0 rfl rfl rfl ?_
  refine v_iload_n 30 3 rfl rfl rfl ?_
  have c4 := h.1
  have h := h.2
  refine v_qFI 31 rfl ⟨fl2_41_3, fl2_41_5, fl2_41_9⟩ c1 ⟨rfl, rfl, rfl⟩ rfl c4 ?_
  exact v_ret (v := none) 32 rfl (Nat.zero_le _) (Nat.zero_le _) trivial rfl h
theorem wX2_init {d n : Nat} {dy : Nat → Shp} {g : Hp} {P : Pst} {r0 : Nat} {x1 : Int} {x2 : Int} {x3 : Int} (hn : 100 ≤ n) (h : (Pt n (W0 dy) r0) ∧ (i3 x1) ∧ (i3 x2) ∧ (i3 x3) ∧ P none n (W0 dy) (up2 (up2 (up2 (up2 (up2 (up2 (up2 (up2 (up2 (up2 g r0 3 (((0 : Nat) : Int))) r0 4 ((-1))) r0 5 0) r0 6 0) r0 7 0) r0 8 0) r0 9 0) r0 0 x1) r0 1 x2) r0 2 x3)) : Runs miX2_init (d + 1) [.ref r0, I_ x1, I_ x2, I_ x3] n (W0 dy) g P := Runs.of rfl rfl deX2_init (Nat.le_of_ble_eq_true rfl) (bX2_init_0 hn h)
theorem li10_3_init : LkI miX10_init miX2_init 3 3 := ⟨⟨⟨tbG_in (List.mem_append_right _ (List.mem_of_getElem? (i := 344) (by decide +kernel))) rfl, tbG_in (List.mem_append_right _ (List.mem_of_getElem? (i := 12) (by decide +kernel))) rfl, tbG_in (List.mem_append_right _ (List.mem_of_getElem? (i := 342) (by decide +kernel))) rfl⟩, ⟨by decide +kernel, by decide +kernel, by decide +kernel⟩, by decide⟩, rfl, tbG_in (List.mem_append_right _ (List.mem_of_getElem? (i := 343) (by decide +kernel))) rfl⟩
set_option maxHeartbeats 8000000 in
set_option maxRecDepth 4000 in
theorem bX10_init_0 {d n : Nat} {dy : Nat → Shp} {g : Hp} {P : Pst} {r0 : Nat} {x1 : Int} {x2 : Int} (hn : 100 ≤ n) (h : (Pt n (W0 dy) r0) ∧ Runs miX2_init d [.ref r0, I_ x1, I_ 1, I_ x2] n (W0 dy) g (fun v n' S' g' => V miX10_init (d + 1) 7 [(0, .ref r0), (1, I_ x1), (2, I_ x2)] (v.toList ++ []) n' S' g' 0 0 P)) : V miX10_init (d + 1) 0 [(0, .ref r0), (1, I_ x1), (2, I_ x2)] [] n (W0 dy) g 0 0 P := by
  refine v_aload_n 0 0 rfl rfl rfl ?_
  refine v_iload_n 1 1 rfl rfl rfl ?_
  refine v_iconst 2 rfl ?_
  refine v_iload_n 3 2 rfl rfl rfl ?_
  have c1 := h.1
  have h := h.2
  refine v_callI (st := []) [I_ x1, I_ 1, I_ x2] 4 rfl li10_3_init rfl c1.1 rfl (Nat.le_refl _) (Nat.le_refl _) ?_
  exact h
set_option maxHeartbeats 8000000 in
set_option maxRecDepth 4000 in
theorem bX10_init_7 {d n : Nat} {dy : Nat → Shp} {g : Hp} {P : Pst} {r0 : Nat} {x1 : Int} {x2 : Int} (hn : 100 ≤ n) (h : P none n (W0 dy) g) : V miX10_init (d + 1) 7 [(0, .ref r0), (1, I_ x1), (2, I_ x2)] [] n (W0 dy) g 0 0 P := by
  exact v_ret (v := none) 5 rfl (Nat.zero_le _) (Nat.zero_le _) trivial rfl h
theorem wX10_init {d n : Nat} {dy : Nat → Shp} {g : Hp} {P : Pst} {r0 : Nat} {x1 : Int} {x2 : Int} (hn : 100 ≤ n) (h : (Pt n (W0 dy) r0) ∧ Runs miX2_init d [.ref r0, I_ x1, I_ 1, I_ x2] n (W0 dy) g (fun v n' S' g' => V miX10_init (d + 1) 7 [(0, .ref r0), (1, I_ x1), (2, I_ x2)] (v.toList ++ []) n' S' g' 0 0 P)) : Runs miX10_init (d + 1) [.ref r0, I_ x1, I_ x2] n (W0 dy) g P := Runs.of rfl rfl deX10_init (Nat.le_of_ble_eq_true rfl) (bX10_init_0 hn h)
theorem fl6_28_5 : FL RX6 28 5 11 true .int := ⟨RX6, TX6, 16, "MobileMaker$Rod", rfl, rfl, by decide, kf5, tbG_in (List.mem_append_right _ (List.mem_of_getElem? (i := 449) (by decide +kernel))) rfl, Or.inl rfl, rfl, by decide +kernel, ⟨tyX6, tyX6_ok⟩, nmX6, fun _ => rfl⟩
theorem li6_3_init : LkI miX6_init miX2_init 3 3 := ⟨⟨⟨tbG_in (List.mem_append_right _ (List.mem_of_getElem? (i := 344) (by decide +kernel))) rfl, tbG_in (List.mem_append_right _ (List.mem_of_getElem? (i := 12) (by decide +kernel))) rfl, tbG_in (List.mem_append_right _ (List.mem_of_getElem? (i := 445) (by decide +kernel))) rfl⟩, ⟨by decide +kernel, by decide +kernel, by decide +kernel⟩, by decide⟩, rfl, tbG_in (List.mem_append_right _ (List.mem_of_getElem? (i := 343) (by decide +kernel))) rfl⟩
set_option maxHeartbeats 8000000 in
set_option maxRecDepth 4000 in
theorem bX6_init_0 {d n : Nat} {dy : Nat → Shp} {g : Hp} {P : Pst} {r0 : Nat} {x1 : Int} {x2 : Int} {x3 : Int} {x4 : Int} (hn : 100 ≤ n) (h : (Pt n (W0 dy) r0) ∧ Runs miX2_init d [.ref r0, I_ x1, I_ x2, I_ (x3 * x4)] n (W0 dy) g (fun v n' S' g' => V miX6_init (d + 1) 10 [(0, .ref r0), (1, I_ x1), (2, I_ x2), (3, I_ x3), (4, I_ x4)] (v.toList ++ []) n' S' g' 0 0 P)) : V miX6_init (d + 1) 0 [(0, .ref r0), (1, I_ x1), (2, I_ x2), (3, I_ x3), (4, I_ x4)] [] n (W0 dy) g 0 0 P := by
  refine v_aload_n 0 0 rfl rfl rfl ?_
  refine v_iload_n 1 1 rfl rfl rfl ?_
  refine v_iload_n 2 2 rfl rfl rfl ?_
  refine v_iload_n 3 3 rfl rfl rfl ?_
  refine v_iload 4 4 rfl rfl ?_
  refine v_imul 5 rfl ?_
  have c1 := h.1
  have h := h.2
  refine v_callI (st := []) [I_ x1, I_ x2, I_ (x3 * x4)] 6 rfl li6_3_init rfl c1.1 rfl (Nat.le_refl _) (Nat.le_refl _) ?_
  exact h
set_option maxHeartbeats 8000000 in
set_option maxRecDepth 4000 in
theorem bX6_init_10 {d n : Nat} {dy : Nat → Shp} {g : Hp} {P : Pst} {r0 : Nat} {x1 : Int} {x2 : Int} {x3 : Int} {x4 : Int} (hn : 100 ≤ n) (h : (Ob n (W0 dy) r0 5) ∧ (i3 x3) ∧ (i3 x4) ∧ P none n (W0 dy) (up2 (up2 (up2 (up2 (up2 (up2 g r0 12 1) r0 13 2) r0 14 (((0 : Nat) : Int))) r0 15 (((0 : Nat) : Int))) r0 10 x3) r0 11 x4)) : V miX6_init (d + 1) 10 [(0, .ref r0), (1, I_ x1), (2, I_ x2), (3, I_ x3), (4, I_ x4)] [] n (W0 dy) g 0 0 P := by
  refine v_aload_n 7 0 rfl rfl rfl ?_
  refine v_iconst 8 rfl ?_
  have c1 := h.1
  have h := h.2
  refine v_putI 9 rfl fl6_9_5 c1.1 c1.2.1 (by decide) rfl (c1.2.2 12) (by decide) ?_
  refine v_aload_n 10 0 rfl rfl rfl ?_
  refine v_iconst 11 rfl ?_
  refine v_putI 12 rfl fl6_15_5 c1.1 c1.2.1 (by decide) rfl (c1.2.2 13) (by decide) ?_
  refine v_aload_n 13 0 rfl rfl rfl ?_
  refine v_null 14 rfl ?_
  refine v_putR 15 rfl fl6_18_5 c1.1 c1.2.1 (by decide) rfl (c1.2.2 14) ?_
  refine v_aload_n 16 0 rfl rfl rfl ?_
  refine v_null 17 rfl ?_
  refine v_putR 18 rfl fl6_22_5 c1.1 c1.2.1 (by decide) rfl (c1.2.2 15) ?_
  refine v_aload_n 19 0 rfl rfl rfl ?_
  refine v_iload_n 20 3 rfl rfl rfl ?_
  have c2 := h.1
  have h := h.2
  refine v_putFI 21 rfl fl6_25_5 c1.1 c1.2.1 (by decide) rfl (c1.2.2 10) rfl c2 ?_
  refine v_aload_n 22 0 rfl rfl rfl ?_
  refine v_iload 23 4 rfl rfl ?_
  have c3 := h.1
  have h := h.2
  refine v_putFI 24 rfl fl6_28_5 c1.1 c1.2.1 (by decide) rfl (c1.2.2 11) rfl c3 ?_
  exact v_ret (v := none) 25 rfl (Nat.zero_le _) (Nat.zero_le _) trivial rfl h
theorem wX6_init {d n : Nat} {dy : Nat → Shp} {g : Hp} {P : Pst} {r0 : Nat} {x1 : Int} {x2 : Int} {x3 : Int} {x4 : Int} (hn : 100 ≤ n) (h : (Pt n (W0 dy) r0) ∧ Runs miX2_init d [.ref r0, I_ x1, I_ x2, I_ (x3 * x4)] n (W0 dy) g (fun v n' S' g' => V miX6_init (d + 1) 10 [(0, .ref r0), (1, I_ x1), (2, I_ x2), (3, I_ x3), (4, I_ x4)] (v.toList ++ []) n' S' g' 0 0 P)) : Runs miX6_init (d + 1) [.ref r0, I_ x1, I_ x2, I_ x3, I_ x4] n (W0 dy) g P := Runs.of rfl rfl deX6_init (Nat.le_of_ble_eq_true rfl) (bX6_init_0 hn h)
theorem lv4_3_init_4 : LkV miX4_init miX5_twiceArea 3 0 4 := ⟨⟨⟨tbG_in (List.mem_append_right _ (List.mem_of_getElem? (i := 546) (by decide +kernel))) rfl, tbG_in (List.mem_append_right _ (List.mem_of_getElem? (i := 3) (by decide +kernel))) rfl, tbG_in (List.mem_append_right _ (List.mem_of_getElem? (i := 543) (by decide +kernel))) rfl⟩, ⟨by decide +kernel, by decide +kernel, by decide +kernel⟩, by decide⟩, tbG_in (List.mem_append_right _ (List.mem_of_getElem? (i := 544) (by decide +kernel))) rfl, RX5, TX5, 3, rfl, tbG_in (List.mem_append_right _ (List.mem_of_getElem? (i := 545) (by decide +kernel))) rfl⟩
theorem li4_9_init : LkI miX4_init miX2_init 9 3 := ⟨⟨⟨tbG_in (List.mem_append_right _ (List.mem_of_getElem? (i := 344) (by decide +kernel))) rfl, tbG_in (List.mem_append_right _ (List.mem_of_getElem? (i := 12) (by decide +kernel))) rfl, tbG_in (List.mem_append_right _ (List.mem_of_getElem? (i := 558) (by decide +kernel))) rfl⟩, ⟨by decide +kernel, by decide +kernel, by decide +kernel⟩, by decide⟩, rfl, tbG_in (List.mem_append_right _ (List.mem_of_getElem? (i := 343) (by decide +kernel))) rfl⟩
theorem lv4_17_init_4 : LkV miX4_init miX5_middleSum 17 1 4 := ⟨⟨⟨tbG_in (List.mem_append_right _ (List.mem_of_getElem? (i := 563) (by decide +kernel))) rfl, tbG_in (List.mem_append_right _ (List.mem_of_getElem? (i := 3) (by decide +kernel))) rfl, tbG_in (List.mem_append_right _ (List.mem_of_getElem? (i := 560) (by decide +kernel))) rfl⟩, ⟨by decide +kernel, by decide +kernel, by decide +kernel⟩, by decide⟩, tbG_in (List.mem_append_right _ (List.mem_of_getElem? (i := 561) (by decide +kernel))) rfl, RX5, TX5, 3, rfl, tbG_in (List.mem_append_right _ (List.mem_of_getElem? (i := 562) (by decide +kernel))) rfl⟩
theorem ln4_21_init : LkN miX4_init miX11_commonDivisor 21 2 "MobileMaker" := ⟨⟨tbG_in (List.mem_append_right _ (List.mem_of_getElem? (i := 566) (by decide +kernel))) rfl, tbG_in (List.mem_append_right _ (List.mem_of_getElem? (i := 1) (by decide +kernel))) rfl, by decide⟩, ⟨by decide +kernel, by decide +kernel, by decide +kernel⟩, by decide, tbG_in (List.mem_append_right _ (List.mem_of_getElem? (i := 565) (by decide +kernel))) rfl, rfl⟩
set_option maxHeartbeats 8000000 in
set_option maxRecDepth 4000 in
theorem bX4_init_0 {d n : Nat} {dy : Nat → Shp} {g : Hp} {P : Pst} {r0 : Nat} {x1 : Int} (hn : 100 ≤ n) (h : Runs miX5_twiceArea d [.ref 6] n (W0 dy) g (fun v n' S' g' => V miX4_init (d + 1) 7 [(0, .ref r0), (1, I_ x1), (2, .ref 6)] (v.toList ++ [I_ 4, I_ x1, .ref r0]) n' S' g' 0 0 P)) : V miX4_init (d + 1) 0 [(0, .ref r0), (1, I_ x1), (2, .ref 6)] [] n (W0 dy) g 0 0 P := by
  refine v_aload_n 0 0 rfl rfl rfl ?_
  refine v_iload_n 1 1 rfl rfl rfl ?_
  refine v_iconst 2 rfl ?_
  refine v_aload_n 3 2 rfl rfl rfl ?_
  refine v_callV (st := [I_ 4, I_ x1, .ref r0]) [] 4 rfl lv4_3_init_4 (al 6 rfl hn) (wk6 dy) (by decide) rfl (Nat.le_refl _) (Nat.le_refl _) ?_
  exact h
set_option maxHeartbeats 8000000 in
set_option maxRecDepth 4000 in
theorem bX4_init_7 {d n : Nat} {dy : Nat → Shp} {g : Hp} {P : Pst} {r0 : Nat} {x1 : Int} {rs0 : Nat} {xs1 : Int} {xs2 : Int} {xs3 : Int} (hn : 100 ≤ n) (h : (Pt n (W0 dy) rs0) ∧ Runs miX2_init d [.ref rs0, I_ xs1, I_ xs2, I_ xs3] n (W0 dy) g (fun v n' S' g' => V miX4_init (d + 1) 10 [(0, .ref r0), (1, I_ x1), (2, .ref 6)] (v.toList ++ []) n' S' g' 0 0 P)) : V miX4_init (d + 1) 7 [(0, .ref r0), (1, I_ x1), (2, .ref 6)] [I_ xs3, I_ xs2, I_ xs1, .ref rs0] n (W0 dy) g 0 0 P := by
  have c1 := h.1
  have h := h.2
  refine v_callI (st := []) [I_ xs1, I_ xs2, I_ xs3] 5 rfl li4_9_init rfl c1.1 rfl (Nat.le_refl _) (Nat.le_refl _) ?_
  exact h
set_option maxHeartbeats 8000000 in
set_option maxRecDepth 4000 in
theorem bX4_init_10 {d n : Nat} {dy : Nat → Shp} {g : Hp} {P : Pst} {r0 : Nat} {x1 : Int} (hn : 100 ≤ n) (h : Runs miX5_twiceArea d [.ref 6] n (W0 dy) g (fun v n' S' g' => V miX4_init (d + 1) 17 [(0, .ref r0), (1, I_ x1), (2, .ref 6)] (v.toList ++ [L_ 3]) n' S' g' 0 0 P)) : V miX4_init (d + 1) 10 [(0, .ref r0), (1, I_ x1), (2, .ref 6)] [] n (W0 dy) g 0 0 P := by
  refine v_ldc2 (v := 3) 6 rfl (tbG_in (List.mem_append_right _ (List.mem_of_getElem? (i := 559) (by decide +kernel))) rfl) ?_
  refine v_aload_n 7 2 rfl rfl rfl ?_
  refine v_callV (st := [L_ 3]) [] 8 rfl lv4_3_init_4 (al 6 rfl hn) (wk6 dy) (by decide) rfl (Nat.le_refl _) (Nat.le_refl _) ?_
  exact h
set_option maxHeartbeats 8000000 in
set_option maxRecDepth 4000 in
theorem bX4_init_17 {d n : Nat} {dy : Nat → Shp} {g : Hp} {P : Pst} {r0 : Nat} {x1 : Int} {xs0 : Int} {xs1 : Int} (hn : 100 ≤ n) (h : (i3 xs1) ∧ Runs miX5_middleSum d [.ref 6, I_ 1] n (W0 dy) g (fun v n' S' g' => V miX4_init (d + 1) 25 [(0, .ref r0), (1, I_ x1), (2, .ref 6), (3, L_ (xs0 * xs1))] (v.toList ++ []) n' S' g' 0 0 P)) : V miX4_init (d + 1) 17 [(0, .ref r0), (1, I_ x1), (2, .ref 6)] [I_ xs1, L_ xs0] n (W0 dy) g 0 0 P := by
  have c1 := h.1
  have h := h.2
  refine v_i2l 9 rfl c1 ?_
  refine v_lmul 10 rfl ?_
  refine v_lstore_n 11 [1, 2, 3, 0] rfl rfl (by decide) rfl ?_
  refine v_aload_n 12 2 rfl rfl rfl ?_
  refine v_iconst 13 rfl ?_
  refine v_callV (st := []) [I_ 1] 14 rfl lv4_17_init_4 (al 6 rfl hn) (wk6 dy) (by decide) rfl (Nat.le_refl _) (Nat.le_refl _) ?_
  exact h
set_option maxHeartbeats 8000000 in
set_option maxRecDepth 4000 in
theorem bX4_init_25 {d n : Nat} {dy : Nat → Shp} {g : Hp} {P : Pst} {r0 : Nat} {x1 : Int} {x3 : Int} {xs0 : Int} (hn : 100 ≤ n) (h : Runs miX5_middleSum d [.ref 6, I_ 0] n (W0 dy) g (fun v n' S' g' => V miX4_init (d + 1) 32 [(0, .ref r0), (1, I_ x1), (2, .ref 6), (3, L_ x3), (5, L_ xs0)] (v.toList ++ []) n' S' g' 0 0 P)) : V miX4_init (d + 1) 25 [(0, .ref r0), (1, I_ x1), (2, .ref 6), (3, L_ x3)] [L_ xs0] n (W0 dy) g 0 0 P := by
  refine v_lstore 15 [1, 2, 3, 4, 0] rfl (by decide) rfl ?_
  refine v_aload_n 16 2 rfl rfl rfl ?_
  refine v_iconst 17 rfl ?_
  refine v_callV (st := []) [I_ 0] 18 rfl lv4_17_init_4 (al 6 rfl hn) (wk6 dy) (by decide) rfl (Nat.le_refl _) (Nat.le_refl _) ?_
  exact h
set_option maxHeartbeats 8000000 in
set_option maxRecDepth 4000 in
theorem bX4_init_32 {d n : Nat} {dy : Nat → Shp} {g : Hp} {P : Pst} {r0 : Nat} {x1 : Int} {x3 : Int} {x5 : Int} {xs0 : Int} (hn : 100 ≤ n) (h : Runs miX11_commonDivisor d [L_ x5, L_ x3] n (W0 dy) g (fun v n' S' g' => V miX4_init (d + 1) 40 [(0, .ref r0), (1, I_ x1), (2, .ref 6), (3, L_ x3), (5, L_ x5), (7, L_ xs0)] (v.toList ++ []) n' S' g' 0 0 P)) : V miX4_init (d + 1) 32 [(0, .ref r0), (1, I_ x1), (2, .ref 6), (3, L_ x3), (5, L_ x5)] [L_ xs0] n (W0 dy) g 0 0 P := by
  refine v_lstore 19 [1, 2, 3, 4, 5, 0] rfl (by decide) rfl ?_
  refine v_lload 20 4 rfl rfl ?_
  refine v_lload_n 21 3 rfl rfl rfl ?_
  refine v_callSN (st := []) [L_ x5, L_ x3] 22 rfl ln4_21_init rfl (Nat.lt_of_lt_of_le (by decide) hn) (Nat.le_refl _) (Nat.le_refl _) ?_
  exact h
set_option maxHeartbeats 8000000 in
set_option maxRecDepth 4000 in
theorem bX4_init_40 {d n : Nat} {dy : Nat → Shp} {g : Hp} {P : Pst} {r0 : Nat} {x1 : Int} {x3 : Int} {x5 : Int} {x7 : Int} {xs0 : Int} (hn : 100 ≤ n) (h : Runs miX11_commonDivisor d [L_ x7, L_ x3] n (W0 dy) g (fun v n' S' g' => V miX4_init (d + 1) 48 [(0, .ref r0), (1, I_ x1), (2, .ref 6), (3, L_ x3), (5, L_ x5), (7, L_ x7), (9, L_ xs0)] (v.toList ++ []) n' S' g' 0 0 P)) : V miX4_init (d + 1) 40 [(0, .ref r0), (1, I_ x1), (2, .ref 6), (3, L_ x3), (5, L_ x5), (7, L_ x7)] [L_ xs0] n (W0 dy) g 0 0 P := by
  refine v_lstore 23 [1, 2, 3, 4, 5, 6, 0] rfl (by decide) rfl ?_
  refine v_lload 24 5 rfl rfl ?_
  refine v_lload_n 25 3 rfl rfl rfl ?_
  refine v_callSN (st := []) [L_ x7, L_ x3] 26 rfl ln4_21_init rfl (Nat.lt_of_lt_of_le (by decide) hn) (Nat.le_refl _) (Nat.le_refl _) ?_
  exact h
set_option maxHeartbeats 8000000 in
set_option maxRecDepth 4000 in
theorem bX4_init_48 {d n : Nat} {dy : Nat → Shp} {g : Hp} {P : Pst} {r0 : Nat} {x1 : Int} {x3 : Int} {x5 : Int} {x7 : Int} {x9 : Int} {xs0 : Int} (hn : 100 ≤ n) (h : (i6 x5) ∧ (i6 x9) ∧ (x9 ≠ 0) ∧ (Ob n (W0 dy) r0 3) ∧ (i6 (x5.tdiv x9)) ∧ (i6 x3) ∧ (x9 ≠ 0) ∧ (i6 (x3.tdiv x9)) ∧ (i6 x7) ∧ (i6 xs0) ∧ (xs0 ≠ 0) ∧ (i6 (x7.tdiv xs0)) ∧ (xs0 ≠ 0) ∧ (i6 (x3.tdiv xs0)) ∧ P none n (W0 dy) (up2 (up2 (up2 (up2 g r0 10 (x5.tdiv x9)) r0 11 (x3.tdiv x9)) r0 12 (x7.tdiv xs0)) r0 13 (x3.tdiv xs0))) : V miX4_init (d + 1) 48 [(0, .ref r0), (1, I_ x1), (2, .ref 6), (3, L_ x3), (5, L_ x5), (7, L_ x7), (9, L_ x9)] [L_ xs0] n (W0 dy) g 0 0 P := by
  refine v_lstore 27 [1, 2, 3, 4, 5, 6, 7, 0] rfl (by decide) rfl ?_
  refine v_aload_n 28 0 rfl rfl rfl ?_
  refine v_lload 29 4 rfl rfl ?_
  refine v_lload 30 6 rfl rfl ?_
  have c1 := h.1
  have h := h.2
  have c2 := h.1
  have h := h.2
  have c3 := h.1
  have h := h.2
  refine v_ldiv 31 rfl c1 c2 c3 ?_
  have c4 := h.1
  have h := h.2
  have c5 := h.1
  have h := h.2
  refine v_putFL 32 rfl fl4_25_3 c4.1 c4.2.1 (by decide) rfl (c4.2.2 10) rfl c5 ?_
  refine v_aload_n 33 0 rfl rfl rfl ?_
  refine v_lload_n 34 3 rfl rfl rfl ?_
  refine v_lload 35 6 rfl rfl ?_
  have c6 := h.1
  have h := h.2
  have c7 := h.1
  have h := h.2
  refine v_ldiv 36 rfl c6 c2 c7 ?_
  have c8 := h.1
  have h := h.2
  refine v_putFL 37 rfl fl4_31_3 c4.1 c4.2.1 (by decide) rfl (c4.2.2 11) rfl c8 ?_
  refine v_aload_n 38 0 rfl rfl rfl ?_
  refine v_lload 39 5 rfl rfl ?_
  refine v_lload 40 7 rfl rfl ?_
  have c9 := h.1
  have h := h.2
  have c10 := h.1
  have h := h.2
  have c11 := h.1
  have h := h.2
  refine v_ldiv 41 rfl c9 c10 c11 ?_
  have c12 := h.1
  have h := h.2
  refine v_putFL 42 rfl fl4_34_3 c4.1 c4.2.1 (by decide) rfl (c4.2.2 12) rfl c12 ?_
  refine v_aload_n 43 0 rfl rfl rfl ?_
  refine v_lload_n 44 3 rfl rfl rfl ?_
  refine v_lload 45 7 rfl rfl ?_
  have c13 := h.1
  have h := h.2
  refine v_ldiv 46 rfl c6 c10 c13 ?_
  have c14 := h.1
  have h := h.2
  refine v_putFL 47 rfl fl4_37_3 c4.1 c4.2.1 (by decide) rfl (c4.2.2 13) rfl c14 ?_
  exact v_ret (v := none) 48 rfl (Nat.zero_le _) (Nat.zero_le _) trivial rfl h
theorem wX4_init {d n : Nat} {dy : Nat → Shp} {g : Hp} {P : Pst} {r0 : Nat} {x1 : Int} (hn : 100 ≤ n) (h : Runs miX5_twiceArea d [.ref 6] n (W0 dy) g (fun v n' S' g' => V miX4_init (d + 1) 7 [(0, .ref r0), (1, I_ x1), (2, .ref 6)] (v.toList ++ [I_ 4, I_ x1, .ref r0]) n' S' g' 0 0 P)) : Runs miX4_init (d + 1) [.ref r0, I_ x1, .ref 6] n (W0 dy) g P := Runs.of rfl rfl deX4_init (Nat.le_of_ble_eq_true rfl) (bX4_init_0 hn h)
theorem nw11_368 : NW RX11 368 9 := ⟨RX10, TX10, 10, tyX10, rfl, rfl, kf9, tyX10_ok, tbG_in (List.mem_append_right _ (List.mem_of_getElem? (i := 337) (by decide +kernel))) rfl, tbG_in (List.mem_append_right _ (List.mem_of_getElem? (i := 338) (by decide +kernel))) rfl, tbG_in (List.mem_append_right _ (List.mem_of_getElem? (i := 13) (by decide +kernel))) rfl, by decide⟩
theorem lv11_135_newWeight_10a : LkV maX11_newWeight miX11_none 135 1 10 := ⟨⟨⟨tbG_in (List.mem_append_right _ (List.mem_of_getElem? (i := 336) (by decide +kernel))) rfl, tbG_in (List.mem_append_right _ (List.mem_of_getElem? (i := 1) (by decide +kernel))) rfl, tbG_in (List.mem_append_right _ (List.mem_of_getElem? (i := 333) (by decide +kernel))) rfl⟩, ⟨by decide +kernel, by decide +kernel, by decide +kernel⟩, by decide⟩, tbG_in (List.mem_append_right _ (List.mem_of_getElem? (i := 335) (by decide +kernel))) rfl, RX11, TX11, 13, rfl, tbG_in (List.mem_append_left _ (List.mem_of_getElem? (i := 4) (by decide +kernel))) rfl⟩
theorem li11_370_newWeighta : LkI maX11_newWeight miX10_init 370 2 := ⟨⟨⟨tbG_in (List.mem_append_right _ (List.mem_of_getElem? (i := 341) (by decide +kernel))) rfl, tbG_in (List.mem_append_right _ (List.mem_of_getElem? (i := 13) (by decide +kernel))) rfl, tbG_in (List.mem_append_right _ (List.mem_of_getElem? (i := 339) (by decide +kernel))) rfl⟩, ⟨by decide +kernel, by decide +kernel, by decide +kernel⟩, by decide⟩, rfl, tbG_in (List.mem_append_right _ (List.mem_of_getElem? (i := 340) (by decide +kernel))) rfl⟩
theorem lv11_144_newWeight_10a : LkV maX11_newWeight miX11_added 144 1 10 := ⟨⟨⟨tbG_in (List.mem_append_right _ (List.mem_of_getElem? (i := 431) (by decide +kernel))) rfl, tbG_in (List.mem_append_right _ (List.mem_of_getElem? (i := 1) (by decide +kernel))) rfl, tbG_in (List.mem_append_right _ (List.mem_of_getElem? (i := 428) (by decide +kernel))) rfl⟩, ⟨by decide +kernel, by decide +kernel, by decide +kernel⟩, by decide⟩, tbG_in (List.mem_append_right _ (List.mem_of_getElem? (i := 430) (by decide +kernel))) rfl, RX11, TX11, 13, rfl, tbG_in (List.mem_append_left _ (List.mem_of_getElem? (i := 5) (by decide +kernel))) rfl⟩
set_option maxHeartbeats 8000000 in
set_option maxRecDepth 4000 in
theorem baX11_newWeight_0 {d n : Nat} {dy : Nat → Shp} {g : Hp} {P : Pst} {x1 : Int} (hn : 100 ≤ n) (h : (i6 x1) ∧ ((x1 < 1) → Runs miX11_none d [.ref 1, I_ 7] n (W0 dy) g (fun v n' S' g' => V maX11_newWeight (d + 1) 20 [(0, .ref 1), (1, L_ x1)] (v.toList ++ []) n' S' g' 0 0 P)) ∧ ((1 ≤ x1) → ((x1 ≤ 1000000) → (((g 1 2) < 60) → Runs miX10_init d [.ref (n), I_ (g 1 2), I_ x1] (n + 1) (W0 (dyu dy n 9)) (upr g n (fun _ => 0)) (fun v n' S' g' => V maX11_newWeight (d + 1) 51 [(0, .ref 1), (1, L_ x1)] (v.toList ++ [.ref (n), .ref 1]) n' S' g' 1 10 P)) ∧ ((60 ≤ (g 1 2)) → Runs miX11_none d [.ref 1, I_ 10] n (W0 dy) g (fun v n' S' g' => V maX11_newWeight (d + 1) 36 [(0, .ref 1), (1, L_ x1)] (v.toList ++ []) n' S' g' 0 0 P))) ∧ ((1000000 < x1) → Runs miX11_none d [.ref 1, I_ 7] n (W0 dy) g (fun v n' S' g' => V maX11_newWeight (d + 1) 20 [(0, .ref 1), (1, L_ x1)] (v.toList ++ []) n' S' g' 0 0 P)))) : V maX11_newWeight (d + 1) 0 [(0, .ref 1), (1, L_ x1)] [] n (W0 dy) g 0 0 P := by
  refine v_lload_n 0 1 rfl rfl rfl ?_
  refine v_lconst (v := 1) 1 rfl (by decide) ?_
  have c1 := h.1
  have h := h.2
  refine v_lif_lt 2 rfl rfl (tgt := 14) rfl c1 (by decide) (fun q2 => ?_) (fun q2 => ?_)
  · have h := h.1 q2
    refine v_aload_n 8 0 rfl rfl rfl ?_
    refine v_bipush 9 rfl (by decide) ?_
    refine v_callV (st := []) [I_ 7] 10 rfl lv11_135_newWeight_10a (al 1 rfl hn) (wk1 dy) (by decide) rfl (by decide) (by decide) ?_
    exact h
  · have h := h.2 q2
    refine v_lload_n 4 1 rfl rfl rfl ?_
    refine v_ldc2 (v := 1000000) 5 rfl (tbG_in (List.mem_append_right _ (List.mem_of_getElem? (i := 332) (by decide +kernel))) rfl) ?_
    refine v_lif_le 6 rfl rfl (tgt := 21) rfl c1 (by decide) (fun q3 => ?_) (fun q3 => ?_)
    · have h := h.1 q3
      refine v_aload_n 12 0 rfl rfl rfl ?_
      refine v_gI 13 rfl fl11_21_10.r (al 1 rfl hn) (wk1 dy) (by decide) rfl (wc1_2 dy) (x := g 1 2) rfl ?_
      refine v_rng fun w4 => ?_
      have p5 : i3 (g 1 2) := rI w4 (q := 2) (al 1 rfl hn) (wk1 dy) rfl rfl
      refine v_bipush 14 rfl (by decide) ?_
      refine v_icmp_lt 15 rfl (tgt := 37) rfl p5 (by decide) (fun q6 => ?_) (fun q6 => ?_)
      · have h := h.1 q6
        refine v_aload_n 20 0 rfl rfl rfl ?_
        refine v_new 21 rfl nw11_368 (by decide) (Nat.lt_of_lt_of_le (by decide) hn) (fun i hi => W0_dyu 9 (Nat.ne_of_lt hi) hn) (W0_dyn 9 hn) (by decide) (by decide) ?_
        have hN : Ob (n + 1) (W0 (dyu dy n 9)) n 9 := ob_new 9 hn
        have hn : 100 ≤ n + 1 := Nat.le_succ_of_le hn
        refine v_dup 22 rfl (by intro h; cases h) ?_
        refine v_aload_n 23 0 rfl rfl rfl ?_
        refine v_gI 24 rfl fl11_21_10.r (al 1 rfl hn) (wk1 (dyu dy n 9)) (by decide) rfl (wc1_2 (dyu dy n 9)) (x := g 1 2) (upr_ne (by omega)) ?_
        refine v_rng fun w7 => ?_
        have p8 : i3 (g 1 2) := rI w7 (q := 2) (al 1 rfl hn) (wk1 (dyu dy n 9)) rfl (upr_ne (by omega))
        refine v_lload_n 25 1 rfl rfl rfl ?_
        refine v_l2i 26 rfl ?_
        refine v_callI (st := [.ref (n), .ref 1]) [I_ (g 1 2), I_ x1] 27 rfl li11_370_newWeighta rfl hN.1 rfl (by decide) (by decide) ?_
        exact h
      · have h := h.2 q6
        refine v_aload_n 16 0 rfl rfl rfl ?_
        refine v_bipush 17 rfl (by decide) ?_
        refine v_callV (st := []) [I_ 10] 18 rfl lv11_135_newWeight_10a (al 1 rfl hn) (wk1 dy) (by decide) rfl (by decide) (by decide) ?_
        exact h
    · have h := h.2 q3
      refine v_aload_n 8 0 rfl rfl rfl ?_
      refine v_bipush 9 rfl (by decide) ?_
      refine v_callV (st := []) [I_ 7] 10 rfl lv11_135_newWeight_10a (al 1 rfl hn) (wk1 dy) (by decide) rfl (by decide) (by decide) ?_
      exact h
set_option maxHeartbeats 8000000 in
set_option maxRecDepth 4000 in
theorem baX11_newWeight_20 {d n : Nat} {dy : Nat → Shp} {g : Hp} {P : Pst} {x1 : Int} {xs0 : Int} (hn : 100 ≤ n) (h : P (some (I_ xs0)) n (W0 dy) g) : V maX11_newWeight (d + 1) 20 [(0, .ref 1), (1, L_ x1)] [I_ xs0] n (W0 dy) g 0 0 P := by
  exact v_ret (v := some (I_ xs0)) 11 rfl (Nat.zero_le _) (Nat.zero_le _) trivial rfl h
set_option maxHeartbeats 8000000 in
set_option maxRecDepth 4000 in
theorem baX11_newWeight_36 {d n : Nat} {dy : Nat → Shp} {g : Hp} {P : Pst} {x1 : Int} {xs0 : Int} (hn : 100 ≤ n) (h : P (some (I_ xs0)) n (W0 dy) g) : V maX11_newWeight (d + 1) 36 [(0, .ref 1), (1, L_ x1)] [I_ xs0] n (W0 dy) g 0 0 P := by
  exact v_ret (v := some (I_ xs0)) 19 rfl (Nat.zero_le _) (Nat.zero_le _) trivial rfl h
set_option maxHeartbeats 8000000 in
set_option maxRecDepth 4000 in
theorem baX11_newWeight_51 {d n : Nat} {dy : Nat → Shp} {g : Hp} {P : Pst} {x1 : Int} {rs1 : Nat} (hn : 100 ≤ n) (h : Runs miX11_added d [.ref 1, .ref rs1] n (W0 dy) g (fun v n' S' g' => V maX11_newWeight (d + 1) 54 [(0, .ref 1), (1, L_ x1)] (v.toList ++ []) n' S' g' 1 10 P)) : V maX11_newWeight (d + 1) 51 [(0, .ref 1), (1, L_ x1)] [.ref rs1, .ref 1] n (W0 dy) g 1 10 P := by
  refine v_callV (st := []) [.ref rs1] 28 rfl lv11_144_newWeight_10a (al 1 rfl hn) (wk1 dy) (by decide) rfl (by decide) (by decide) ?_
  exact h
set_option maxHeartbeats 8000000 in
set_option maxRecDepth 4000 in
theorem baX11_newWeight_54 {d n : Nat} {dy : Nat → Shp} {g : Hp} {P : Pst} {x1 : Int} {xs0 : Int} (hn : 100 ≤ n) (h : P (some (I_ xs0)) n (W0 dy) g) : V maX11_newWeight (d + 1) 54 [(0, .ref 1), (1, L_ x1)] [I_ xs0] n (W0 dy) g 1 10 P := by
  exact v_ret (v := some (I_ xs0)) 29 rfl (by decide) (by decide) trivial rfl h
theorem waX11_newWeight {d n : Nat} {dy : Nat → Shp} {g : Hp} {P : Pst} {x1 : Int} (hn : 100 ≤ n) (h : (i6 x1) ∧ ((x1 < 1) → Runs miX11_none d [.ref 1, I_ 7] n (W0 dy) g (fun v n' S' g' => V maX11_newWeight (d + 1) 20 [(0, .ref 1), (1, L_ x1)] (v.toList ++ []) n' S' g' 0 0 P)) ∧ ((1 ≤ x1) → ((x1 ≤ 1000000) → (((g 1 2) < 60) → Runs miX10_init d [.ref (n), I_ (g 1 2), I_ x1] (n + 1) (W0 (dyu dy n 9)) (upr g n (fun _ => 0)) (fun v n' S' g' => V maX11_newWeight (d + 1) 51 [(0, .ref 1), (1, L_ x1)] (v.toList ++ [.ref (n), .ref 1]) n' S' g' 1 10 P)) ∧ ((60 ≤ (g 1 2)) → Runs miX11_none d [.ref 1, I_ 10] n (W0 dy) g (fun v n' S' g' => V maX11_newWeight (d + 1) 36 [(0, .ref 1), (1, L_ x1)] (v.toList ++ []) n' S' g' 0 0 P))) ∧ ((1000000 < x1) → Runs miX11_none d [.ref 1, I_ 7] n (W0 dy) g (fun v n' S' g' => V maX11_newWeight (d + 1) 20 [(0, .ref 1), (1, L_ x1)] (v.toList ++ []) n' S' g' 0 0 P)))) : Runs maX11_newWeight (d + 1) [.ref 1, L_ x1] n (W0 dy) g P := Runs.of rfl rfl deX11_newWeight (Nat.le_of_ble_eq_true rfl) (baX11_newWeight_0 hn h)
theorem nw11_139 : NW RX11 139 5 := ⟨RX6, TX6, 16, tyX6, rfl, rfl, kf5, tyX6_ok, tbG_in (List.mem_append_right _ (List.mem_of_getElem? (i := 440) (by decide +kernel))) rfl, tbG_in (List.mem_append_right _ (List.mem_of_getElem? (i := 441) (by decide +kernel))) rfl, tbG_in (List.mem_append_right _ (List.mem_of_getElem? (i := 14) (by decide +kernel))) rfl, by decide⟩
theorem lv11_135_rod_10a : LkV maX11_rod miX11_none 135 1 10 := ⟨⟨⟨tbG_in (List.mem_append_right _ (List.mem_of_getElem? (i := 336) (by decide +kernel))) rfl, tbG_in (List.mem_append_right _ (List.mem_of_getElem? (i := 1) (by decide +kernel))) rfl, tbG_in (List.mem_append_right _ (List.mem_of_getElem? (i := 333) (by decide +kernel))) rfl⟩, ⟨by decide +kernel, by decide +kernel, by decide +kernel⟩, by decide⟩, tbG_in (List.mem_append_right _ (List.mem_of_getElem? (i := 335) (by decide +kernel))) rfl, RX11, TX11, 13, rfl, tbG_in (List.mem_append_left _ (List.mem_of_getElem? (i := 4) (by decide +kernel))) rfl⟩
theorem li11_141_roda : LkI maX11_rod miX6_init 141 4 := ⟨⟨⟨tbG_in (List.mem_append_right _ (List.mem_of_getElem? (i := 444) (by decide +kernel))) rfl, tbG_in (List.mem_append_right _ (List.mem_of_getElem? (i := 14) (by decide +kernel))) rfl, tbG_in (List.mem_append_right _ (List.mem_of_getElem? (i := 442) (by decide +kernel))) rfl⟩, ⟨by decide +kernel, by decide +kernel, by decide +kernel⟩, by decide⟩, rfl, tbG_in (List.mem_append_right _ (List.mem_of_getElem? (i := 443) (by decide +kernel))) rfl⟩
theorem lv11_144_rod_10a : LkV maX11_rod miX11_added 144 1 10 := ⟨⟨⟨tbG_in (List.mem_append_right _ (List.mem_of_getElem? (i := 431) (by decide +kernel))) rfl, tbG_in (List.mem_append_right _ (List.mem_of_getElem? (i := 1) (by decide +kernel))) rfl, tbG_in (List.mem_append_right _ (List.mem_of_getElem? (i := 428) (by decide +kernel))) rfl⟩, ⟨by decide +kernel, by decide +kernel, by decide +kernel⟩, by decide⟩, tbG_in (List.mem_append_right _ (List.mem_of_getElem? (i := 430) (by decide +kernel))) rfl, RX11, TX11, 13, rfl, tbG_in (List.mem_append_left _ (List.mem_of_getElem? (i := 5) (by decide +kernel))) rfl⟩
set_option maxHeartbeats 8000000 in
set_option maxRecDepth 4000 in
theorem baX11_rod_0 {d n : Nat} {dy : Nat → Shp} {g : Hp} {P : Pst} {x1 : Int} {x2 : Int} {x3 : Int} (hn : 100 ≤ n) (h : (i3 x1) ∧ ((x1 < 2) → Runs miX11_none d [.ref 1, I_ 7] n (W0 dy) g (fun v n' S' g' => V maX11_rod (d + 1) 29 [(0, .ref 1), (1, I_ x1), (2, I_ x2), (3, I_ x3)] (v.toList ++ []) n' S' g' 0 0 P)) ∧ ((2 ≤ x1) → ((1000 < x1) → Runs miX11_none d [.ref 1, I_ 7] n (W0 dy) g (fun v n' S' g' => V maX11_rod (d + 1) 29 [(0, .ref 1), (1, I_ x1), (2, I_ x2), (3, I_ x3)] (v.toList ++ []) n' S' g' 0 0 P)) ∧ ((x1 ≤ 1000) → (i3 x2) ∧ ((x2 < 0) → Runs miX11_none d [.ref 1, I_ 7] n (W0 dy) g (fun v n' S' g' => V maX11_rod (d + 1) 29 [(0, .ref 1), (1, I_ x1), (2, I_ x2), (3, I_ x3)] (v.toList ++ []) n' S' g' 0 0 P)) ∧ ((0 ≤ x2) → ((x2 ≤ 1000) → (((g 1 2) < 60) → (i3 x3) ∧ ((x3 = 0) → Runs miX6_init d [.ref (n), I_ (g 1 2), I_ 2, I_ x1, I_ x2] (n + 1) (W0 (dyu dy n 5)) (upr g n (fun _ => 0)) (fun v n' S' g' => V maX11_rod (d + 1) 69 [(0, .ref 1), (1, I_ x1), (2, I_ x2), (3, I_ x3)] (v.toList ++ [.ref (n), .ref 1]) n' S' g' 1 16 P)) ∧ ((x3 ≠ 0) → Runs miX6_init d [.ref (n), I_ (g 1 2), I_ 3, I_ x1, I_ x2] (n + 1) (W0 (dyu dy n 5)) (upr g n (fun _ => 0)) (fun v n' S' g' => V maX11_rod (d + 1) 69 [(0, .ref 1), (1, I_ x1), (2, I_ x2), (3, I_ x3)] (v.toList ++ [.ref (n), .ref 1]) n' S' g' 1 16 P))) ∧ ((60 ≤ (g 1 2)) → Runs miX11_none d [.ref 1, I_ 10] n (W0 dy) g (fun v n' S' g' => V maX11_rod (d + 1) 45 [(0, .ref 1), (1, I_ x1), (2, I_ x2), (3, I_ x3)] (v.toList ++ []) n' S' g' 0 0 P))) ∧ ((1000 < x2) → Runs miX11_none d [.ref 1, I_ 7] n (W0 dy) g (fun v n' S' g' => V maX11_rod (d + 1) 29 [(0, .ref 1), (1, I_ x1), (2, I_ x2), (3, I_ x3)] (v.toList ++ []) n' S' g' 0 0 P)))))) : V maX11_rod (d + 1) 0 [(0, .ref 1), (1, I_ x1), (2, I_ x2), (3, I_ x3)] [] n (W0 dy) g 0 0 P := by
  refine v_iload_n 0 1 rfl rfl rfl ?_
  refine v_iconst 1 rfl ?_
  have c1 := h.1
  have h := h.2
  refine v_icmp_lt 2 rfl (tgt := 23) rfl c1 (by decide) (fun q2 => ?_) (fun q2 => ?_)
  · have h := h.1 q2
    refine v_aload_n 11 0 rfl rfl rfl ?_
    refine v_bipush 12 rfl (by decide) ?_
    refine v_callV (st := []) [I_ 7] 13 rfl lv11_135_rod_10a (al 1 rfl hn) (wk1 dy) (by decide) rfl (by decide) (by decide) ?_
    exact h
  · have h := h.2 q2
    refine v_iload_n 3 1 rfl rfl rfl ?_
    refine v_sipush 4 rfl (by decide) ?_
    refine v_icmp_gt 5 rfl (tgt := 23) rfl c1 (by decide) (fun q3 => ?_) (fun q3 => ?_)
    · have h := h.1 q3
      refine v_aload_n 11 0 rfl rfl rfl ?_
      refine v_bipush 12 rfl (by decide) ?_
      refine v_callV (st := []) [I_ 7] 13 rfl lv11_135_rod_10a (al 1 rfl hn) (wk1 dy) (by decide) rfl (by decide) (by decide) ?_
      exact h
    · have h := h.2 q3
      refine v_iload_n 6 2 rfl rfl rfl ?_
      have c4 := h.1
      have h := h.2
      refine v_if_lt 7 rfl (tgt := 23) rfl c4 (fun q5 => ?_) (fun q5 => ?_)
      · have h := h.1 q5
        refine v_aload_n 11 0 rfl rfl rfl ?_
        refine v_bipush 12 rfl (by decide) ?_
        refine v_callV (st := []) [I_ 7] 13 rfl lv11_135_rod_10a (al 1 rfl hn) (wk1 dy) (by decide) rfl (by decide) (by decide) ?_
        exact h
      · have h := h.2 q5
        refine v_iload_n 8 2 rfl rfl rfl ?_
        refine v_sipush 9 rfl (by decide) ?_
        refine v_icmp_le 10 rfl (tgt := 30) rfl c4 (by decide) (fun q6 => ?_) (fun q6 => ?_)
        · have h := h.1 q6
          refine v_aload_n 15 0 rfl rfl rfl ?_
          refine v_gI 16 rfl fl11_21_10.r (al 1 rfl hn) (wk1 dy) (by decide) rfl (wc1_2 dy) (x := g 1 2) rfl ?_
          refine v_rng fun w7 => ?_
          have p8 : i3 (g 1 2) := rI w7 (q := 2) (al 1 rfl hn) (wk1 dy) rfl rfl
          refine v_bipush 17 rfl (by decide) ?_
          refine v_icmp_lt 18 rfl (tgt := 46) rfl p8 (by decide) (fun q9 => ?_) (fun q9 => ?_)
          · have h := h.1 q9
            refine v_aload_n 23 0 rfl rfl rfl ?_
            refine v_new 24 rfl nw11_139 (by decide) (Nat.lt_of_lt_of_le (by decide) hn) (fun i hi => W0_dyu 5 (Nat.ne_of_lt hi) hn) (W0_dyn 5 hn) (by decide) (by decide) ?_
            have hN : Ob (n + 1) (W0 (dyu dy n 5)) n 5 := ob_new 5 hn
            have hn : 100 ≤ n + 1 := Nat.le_succ_of_le hn
            refine v_dup 25 rfl (by intro h; cases h) ?_
            refine v_aload_n 26 0 rfl rfl rfl ?_
            refine v_gI 27 rfl fl11_21_10.r (al 1 rfl hn) (wk1 (dyu dy n 5)) (by decide) rfl (wc1_2 (dyu dy n 5)) (x := g 1 2) (upr_ne (by omega)) ?_
            refine v_rng fun w10 => ?_
            have p11 : i3 (g 1 2) := rI w10 (q := 2) (al 1 rfl hn) (wk1 (dyu dy n 5)) rfl (upr_ne (by omega))
            refine v_iload_n 28 3 rfl rfl rfl ?_
            have c12 := h.1
            have h := h.2
            refine v_if_eq 29 rfl (tgt := 63) rfl c12 (fun q13 => ?_) (fun q13 => ?_)
            · have h := h.1 q13
              refine v_iconst 32 rfl ?_
              refine v_iload_n 33 1 rfl rfl rfl ?_
              refine v_iload_n 34 2 rfl rfl rfl ?_
              refine v_callI (st := [.ref (n), .ref 1]) [I_ (g 1 2), I_ 2, I_ x1, I_ x2] 35 rfl li11_141_roda rfl hN.1 rfl (by decide) (by decide) ?_
              exact h
            · have h := h.2 q13
              refine v_iconst 30 rfl ?_
              refine v_goto 31 rfl (tgt := 64) rfl ?_
              refine v_iload_n 33 1 rfl rfl rfl ?_
              refine v_iload_n 34 2 rfl rfl rfl ?_
              refine v_callI (st := [.ref (n), .ref 1]) [I_ (g 1 2), I_ 3, I_ x1, I_ x2] 35 rfl li11_141_roda rfl hN.1 rfl (by decide) (by decide) ?_
              exact h
          · have h := h.2 q9
            refine v_aload_n 19 0 rfl rfl rfl ?_
            refine v_bipush 20 rfl (by decide) ?_
            refine v_callV (st := []) [I_ 10] 21 rfl lv11_135_rod_10a (al 1 rfl hn) (wk1 dy) (by decide) rfl (by decide) (by decide) ?_
            exact h
        · have h := h.2 q6
          refine v_aload_n 11 0 rfl rfl rfl ?_
          refine v_bipush 12 rfl (by decide) ?_
          refine v_callV (st := []) [I_ 7] 13 rfl lv11_135_rod_10a (al 1 rfl hn) (wk1 dy) (by decide) rfl (by decide) (by decide) ?_
          exact h
set_option maxHeartbeats 8000000 in
set_option maxRecDepth 4000 in
theorem baX11_rod_29 {d n : Nat} {dy : Nat → Shp} {g : Hp} {P : Pst} {x1 : Int} {x2 : Int} {x3 : Int} {xs0 : Int} (hn : 100 ≤ n) (h : P (some (I_ xs0)) n (W0 dy) g) : V maX11_rod (d + 1) 29 [(0, .ref 1), (1, I_ x1), (2, I_ x2), (3, I_ x3)] [I_ xs0] n (W0 dy) g 0 0 P := by
  exact v_ret (v := some (I_ xs0)) 14 rfl (Nat.zero_le _) (Nat.zero_le _) trivial rfl h
set_option maxHeartbeats 8000000 in
set_option maxRecDepth 4000 in
theorem baX11_rod_45 {d n : Nat} {dy : Nat → Shp} {g : Hp} {P : Pst} {x1 : Int} {x2 : Int} {x3 : Int} {xs0 : Int} (hn : 100 ≤ n) (h : P (some (I_ xs0)) n (W0 dy) g) : V maX11_rod (d + 1) 45 [(0, .ref 1), (1, I_ x1), (2, I_ x2), (3, I_ x3)] [I_ xs0] n (W0 dy) g 0 0 P := by
  exact v_ret (v := some (I_ xs0)) 22 rfl (Nat.zero_le _) (Nat.zero_le _) trivial rfl h
set_option maxHeartbeats 8000000 in
set_option maxRecDepth 4000 in
theorem baX11_rod_69 {d n : Nat} {dy : Nat → Shp} {g : Hp} {P : Pst} {x1 : Int} {x2 : Int} {x3 : Int} {rs1 : Nat} (hn : 100 ≤ n) (h : Runs miX11_added d [.ref 1, .ref rs1] n (W0 dy) g (fun v n' S' g' => V maX11_rod (d + 1) 72 [(0, .ref 1), (1, I_ x1), (2, I_ x2), (3, I_ x3)] (v.toList ++ []) n' S' g' 1 16 P)) : V maX11_rod (d + 1) 69 [(0, .ref 1), (1, I_ x1), (2, I_ x2), (3, I_ x3)] [.ref rs1, .ref 1] n (W0 dy) g 1 16 P := by
  refine v_callV (st := []) [.ref rs1] 36 rfl lv11_144_rod_10a (al 1 rfl hn) (wk1 dy) (by decide) rfl (by decide) (by decide) ?_
  exact h
set_option maxHeartbeats 8000000 in
set_option maxRecDepth 4000 in
theorem baX11_rod_72 {d n : Nat} {dy : Nat → Shp} {g : Hp} {P : Pst} {x1 : Int} {x2 : Int} {x3 : Int} {xs0 : Int} (hn : 100 ≤ n) (h : P (some (I_ xs0)) n (W0 dy) g) : V maX11_rod (d + 1) 72 [(0, .ref 1), (1, I_ x1), (2, I_ x2), (3, I_ x3)] [I_ xs0] n (W0 dy) g 1 16 P := by
  exact v_ret (v := some (I_ xs0)) 37 rfl (by decide) (by decide) trivial rfl h
theorem waX11_rod {d n : Nat} {dy : Nat → Shp} {g : Hp} {P : Pst} {x1 : Int} {x2 : Int} {x3 : Int} (hn : 100 ≤ n) (h : (i3 x1) ∧ ((x1 < 2) → Runs miX11_none d [.ref 1, I_ 7] n (W0 dy) g (fun v n' S' g' => V maX11_rod (d + 1) 29 [(0, .ref 1), (1, I_ x1), (2, I_ x2), (3, I_ x3)] (v.toList ++ []) n' S' g' 0 0 P)) ∧ ((2 ≤ x1) → ((1000 < x1) → Runs miX11_none d [.ref 1, I_ 7] n (W0 dy) g (fun v n' S' g' => V maX11_rod (d + 1) 29 [(0, .ref 1), (1, I_ x1), (2, I_ x2), (3, I_ x3)] (v.toList ++ []) n' S' g' 0 0 P)) ∧ ((x1 ≤ 1000) → (i3 x2) ∧ ((x2 < 0) → Runs miX11_none d [.ref 1, I_ 7] n (W0 dy) g (fun v n' S' g' => V maX11_rod (d + 1) 29 [(0, .ref 1), (1, I_ x1), (2, I_ x2), (3, I_ x3)] (v.toList ++ []) n' S' g' 0 0 P)) ∧ ((0 ≤ x2) → ((x2 ≤ 1000) → (((g 1 2) < 60) → (i3 x3) ∧ ((x3 = 0) → Runs miX6_init d [.ref (n), I_ (g 1 2), I_ 2, I_ x1, I_ x2] (n + 1) (W0 (dyu dy n 5)) (upr g n (fun _ => 0)) (fun v n' S' g' => V maX11_rod (d + 1) 69 [(0, .ref 1), (1, I_ x1), (2, I_ x2), (3, I_ x3)] (v.toList ++ [.ref (n), .ref 1]) n' S' g' 1 16 P)) ∧ ((x3 ≠ 0) → Runs miX6_init d [.ref (n), I_ (g 1 2), I_ 3, I_ x1, I_ x2] (n + 1) (W0 (dyu dy n 5)) (upr g n (fun _ => 0)) (fun v n' S' g' => V maX11_rod (d + 1) 69 [(0, .ref 1), (1, I_ x1), (2, I_ x2), (3, I_ x3)] (v.toList ++ [.ref (n), .ref 1]) n' S' g' 1 16 P))) ∧ ((60 ≤ (g 1 2)) → Runs miX11_none d [.ref 1, I_ 10] n (W0 dy) g (fun v n' S' g' => V maX11_rod (d + 1) 45 [(0, .ref 1), (1, I_ x1), (2, I_ x2), (3, I_ x3)] (v.toList ++ []) n' S' g' 0 0 P))) ∧ ((1000 < x2) → Runs miX11_none d [.ref 1, I_ 7] n (W0 dy) g (fun v n' S' g' => V maX11_rod (d + 1) 29 [(0, .ref 1), (1, I_ x1), (2, I_ x2), (3, I_ x3)] (v.toList ++ []) n' S' g' 0 0 P)))))) : Runs maX11_rod (d + 1) [.ref 1, I_ x1, I_ x2, I_ x3] n (W0 dy) g P := Runs.of rfl rfl deX11_rod (Nat.le_of_ble_eq_true rfl) (baX11_rod_0 hn h)
theorem fl11_148_8 : FL RX11 148 8 1 false .int := ⟨RX9, TX9, 3, "MobileMaker$Tray", rfl, rfl, by decide, kf8, tbG_in (List.mem_append_right _ (List.mem_of_getElem? (i := 206) (by decide +kernel))) rfl, Or.inl rfl, rfl, by decide +kernel, ⟨tyX9, tyX9_ok⟩, nmX9, fun h => by cases h⟩
theorem fl11_38_10 : FL RX11 38 10 5 true (.object "MobileMaker$Ring") := ⟨RX11, TX11, 13, "MobileMaker", rfl, rfl, by decide, kf10, tbG_in (List.mem_append_right _ (List.mem_of_getElem? (i := 221) (by decide +kernel))) rfl, Or.inl rfl, rfl, by decide +kernel, ⟨tyX11, tyX11_ok⟩, nmX11, fun _ => rfl⟩
theorem nw11_158 : NW RX11 158 3 := ⟨RX4, TX4, 14, tyX4, rfl, rfl, kf3, tyX4_ok, tbG_in (List.mem_append_right _ (List.mem_of_getElem? (i := 538) (by decide +kernel))) rfl, tbG_in (List.mem_append_right _ (List.mem_of_getElem? (i := 539) (by decide +kernel))) rfl, tbG_in (List.mem_append_right _ (List.mem_of_getElem? (i := 17) (by decide +kernel))) rfl, by decide⟩
theorem lv11_81_plate_10a : LkV maX11_plate miX11_trayAt 81 1 10 := ⟨⟨⟨tbG_in (List.mem_append_right _ (List.mem_of_getElem? (i := 267) (by decide +kernel))) rfl, tbG_in (List.mem_append_right _ (List.mem_of_getElem? (i := 1) (by decide +kernel))) rfl, tbG_in (List.mem_append_right _ (List.mem_of_getElem? (i := 264) (by decide +kernel))) rfl⟩, ⟨by decide +kernel, by decide +kernel, by decide +kernel⟩, by decide⟩, tbG_in (List.mem_append_right _ (List.mem_of_getElem? (i := 266) (by decide +kernel))) rfl, RX11, TX11, 13, rfl, tbG_in (List.mem_append_left _ (List.mem_of_getElem? (i := 0) (by decide +kernel))) rfl⟩
theorem lv11_111_plate_8a : LkV maX11_plate miX9_isMissing 111 0 8 := ⟨⟨⟨tbG_in (List.mem_append_right _ (List.mem_of_getElem? (i := 293) (by decide +kernel))) rfl, tbG_in (List.mem_append_right _ (List.mem_of_getElem? (i := 8) (by decide +kernel))) rfl, tbG_in (List.mem_append_right _ (List.mem_of_getElem? (i := 290) (by decide +kernel))) rfl⟩, ⟨by decide +kernel, by decide +kernel, by decide +kernel⟩, by decide⟩, tbG_in (List.mem_append_right _ (List.mem_of_getElem? (i := 291) (by decide +kernel))) rfl, RX9, TX9, 3, rfl, tbG_in (List.mem_append_right _ (List.mem_of_getElem? (i := 292) (by decide +kernel))) rfl⟩
theorem lv11_135_plate_10a : LkV maX11_plate miX11_none 135 1 10 := ⟨⟨⟨tbG_in (List.mem_append_right _ (List.mem_of_getElem? (i := 336) (by decide +kernel))) rfl, tbG_in (List.mem_append_right _ (List.mem_of_getElem? (i := 1) (by decide +kernel))) rfl, tbG_in (List.mem_append_right _ (List.mem_of_getElem? (i := 333) (by decide +kernel))) rfl⟩, ⟨by decide +kernel, by decide +kernel, by decide +kernel⟩, by decide⟩, tbG_in (List.mem_append_right _ (List.mem_of_getElem? (i := 335) (by decide +kernel))) rfl, RX11, TX11, 13, rfl, tbG_in (List.mem_append_left _ (List.mem_of_getElem? (i := 4) (by decide +kernel))) rfl⟩
theorem lv11_151_plate_4a : LkV maX11_plate miX5_draw 151 2 4 := ⟨⟨⟨tbG_in (List.mem_append_right _ (List.mem_of_getElem? (i := 498) (by decide +kernel))) rfl, tbG_in (List.mem_append_right _ (List.mem_of_getElem? (i := 3) (by decide +kernel))) rfl, tbG_in (List.mem_append_right _ (List.mem_of_getElem? (i := 495) (by decide +kernel))) rfl⟩, ⟨by decide +kernel, by decide +kernel, by decide +kernel⟩, by decide⟩, tbG_in (List.mem_append_right _ (List.mem_of_getElem? (i := 496) (by decide +kernel))) rfl, RX5, TX5, 3, rfl, tbG_in (List.mem_append_right _ (List.mem_of_getElem? (i := 497) (by decide +kernel))) rfl⟩
theorem lv11_155_plate_4a : LkV maX11_plate miX5_touchesItself 155 0 4 := ⟨⟨⟨tbG_in (List.mem_append_right _ (List.mem_of_getElem? (i := 511) (by decide +kernel))) rfl, tbG_in (List.mem_append_right _ (List.mem_of_getElem? (i := 3) (by decide +kernel))) rfl, tbG_in (List.mem_append_right _ (List.mem_of_getElem? (i := 508) (by decide +kernel))) rfl⟩, ⟨by decide +kernel, by decide +kernel, by decide +kernel⟩, by decide⟩, tbG_in (List.mem_append_right _ (List.mem_of_getElem? (i := 509) (by decide +kernel))) rfl, RX5, TX5, 3, rfl, tbG_in (List.mem_append_right _ (List.mem_of_getElem? (i := 510) (by decide +kernel))) rfl⟩
theorem li11_160_platea : LkI maX11_plate miX4_init 160 2 := ⟨⟨⟨tbG_in (List.mem_append_right _ (List.mem_of_getElem? (i := 542) (by decide +kernel))) rfl, tbG_in (List.mem_append_right _ (List.mem_of_getElem? (i := 17) (by decide +kernel))) rfl, tbG_in (List.mem_append_right _ (List.mem_of_getElem? (i := 540) (by decide +kernel))) rfl⟩, ⟨by decide +kernel, by decide +kernel, by decide +kernel⟩, by decide⟩, rfl, tbG_in (List.mem_append_right _ (List.mem_of_getElem? (i := 541) (by decide +kernel))) rfl⟩
theorem lv11_144_plate_10a : LkV maX11_plate miX11_added 144 1 10 := ⟨⟨⟨tbG_in (List.mem_append_right _ (List.mem_of_getElem? (i := 431) (by decide +kernel))) rfl, tbG_in (List.mem_append_right _ (List.mem_of_getElem? (i := 1) (by decide +kernel))) rfl, tbG_in (List.mem_append_right _ (List.mem_of_getElem? (i := 428) (by decide +kernel))) rfl⟩, ⟨by decide +kernel, by decide +kernel, by decide +kernel⟩, by decide⟩, tbG_in (List.mem_append_right _ (List.mem_of_getElem? (i := 430) (by decide +kernel))) rfl, RX11, TX11, 13, rfl, tbG_in (List.mem_append_left _ (List.mem_of_getElem? (i := 5) (by decide +kernel))) rfl⟩
set_option maxHeartbeats 8000000 in
set_option maxRecDepth 4000 in
theorem baX11_plate_0 {d n : Nat} {dy : Nat → Shp} {g : Hp} {P : Pst} {x1 : Int} {x2 : Int} (hn : 100 ≤ n) (h : Runs miX11_trayAt d [.ref 1, I_ x1] n (W0 dy) g (fun v n' S' g' => V maX11_plate (d + 1) 5 [(0, .ref 1), (1, I_ x1), (2, I_ x2)] (v.toList ++ []) n' S' g' 0 0 P)) : V maX11_plate (d + 1) 0 [(0, .ref 1), (1, I_ x1), (2, I_ x2)] [] n (W0 dy) g 0 0 P := by
  refine v_aload_n 0 0 rfl rfl rfl ?_
  refine v_iload_n 1 1 rfl rfl rfl ?_
  refine v_callV (st := []) [I_ x1] 2 rfl lv11_81_plate_10a (al 1 rfl hn) (wk1 dy) (by decide) rfl (by decide) (by decide) ?_
  exact h
set_option maxHeartbeats 8000000 in
set_option maxRecDepth 4000 in
theorem baX11_plate_5 {d n : Nat} {dy : Nat → Shp} {g : Hp} {P : Pst} {x1 : Int} {x2 : Int} {rs0 : Nat} (hn : 100 ≤ n) (h : ((0 < rs0) → (Tr n (W0 dy) rs0) ∧ Runs miX9_isMissing d [.ref rs0] n (W0 dy) g (fun v n' S' g' => V maX11_plate (d + 1) 20 [(0, .ref 1), (1, I_ x1), (2, I_ x2), (3, .ref rs0)] (v.toList ++ []) n' S' g' 0 0 P)) ∧ ((rs0 = 0) → Runs miX11_none d [.ref 1, I_ 1] n (W0 dy) g (fun v n' S' g' => V maX11_plate (d + 1) 15 [(0, .ref 1), (1, I_ x1), (2, I_ x2), (3, .ref rs0)] (v.toList ++ []) n' S' g' 0 0 P))) : V maX11_plate (d + 1) 5 [(0, .ref 1), (1, I_ x1), (2, I_ x2)] [.ref rs0] n (W0 dy) g 0 0 P := by
  refine v_astore_n 3 [1, 2, 3, 0] rfl rfl (by decide) rfl ?_
  refine v_aload_n 4 3 rfl rfl rfl ?_
  refine v_ifnonnull 5 rfl (tgt := 16) rfl (fun q1 => ?_) (fun q1 => ?_)
  · have h := h.1 q1
    refine v_aload_n 10 3 rfl rfl rfl ?_
    have c2 := h.1
    have h := h.2
    refine v_callV (st := []) [] 11 rfl lv11_111_plate_8a c2.1 c2.2.1 (by decide) rfl (by decide) (by decide) ?_
    exact h
  · have h := h.2 q1
    refine v_aload_n 6 0 rfl rfl rfl ?_
    refine v_iconst 7 rfl ?_
    refine v_callV (st := []) [I_ 1] 8 rfl lv11_135_plate_10a (al 1 rfl hn) (wk1 dy) (by decide) rfl (by decide) (by decide) ?_
    exact h
set_option maxHeartbeats 8000000 in
set_option maxRecDepth 4000 in
theorem baX11_plate_15 {d n : Nat} {dy : Nat → Shp} {g : Hp} {P : Pst} {x1 : Int} {x2 : Int} {r3 : Nat} {xs0 : Int} (hn : 100 ≤ n) (h : P (some (I_ xs0)) n (W0 dy) g) : V maX11_plate (d + 1) 15 [(0, .ref 1), (1, I_ x1), (2, I_ x2), (3, .ref r3)] [I_ xs0] n (W0 dy) g 0 0 P := by
  exact v_ret (v := some (I_ xs0)) 9 rfl (Nat.zero_le _) (Nat.zero_le _) trivial rfl h
set_option maxHeartbeats 8000000 in
set_option maxRecDepth 4000 in
theorem baX11_plate_20 {d n : Nat} {dy : Nat → Shp} {g : Hp} {P : Pst} {x1 : Int} {x2 : Int} {r3 : Nat} {xs0 : Int} (hn : 100 ≤ n) (h : (i3 xs0) ∧ ((xs0 = 0) → (i3 x2) ∧ ((x2 < 3) → Runs miX11_none d [.ref 1, I_ 7] n (W0 dy) g (fun v n' S' g' => V maX11_plate (d + 1) 46 [(0, .ref 1), (1, I_ x1), (2, I_ x2), (3, .ref r3)] (v.toList ++ []) n' S' g' 0 0 P)) ∧ ((3 ≤ x2) → ((x2 ≤ 8) → (Tr n (W0 dy) r3) ∧ (i3 (2 * x2)) ∧ (((2 * x2) ≤ (g r3 1)) → Runs miX5_draw d [.ref 6, .ref r3, I_ x2] n (W0 dy) g (fun v n' S' g' => V maX11_plate (d + 1) 72 [(0, .ref 1), (1, I_ x1), (2, I_ x2), (3, .ref r3)] (v.toList ++ []) n' S' g' 0 0 P)) ∧ (((g r3 1) < (2 * x2)) → Runs miX11_none d [.ref 1, I_ 4] n (W0 dy) g (fun v n' S' g' => V maX11_plate (d + 1) 62 [(0, .ref 1), (1, I_ x1), (2, I_ x2), (3, .ref r3)] (v.toList ++ []) n' S' g' 0 0 P))) ∧ ((8 < x2) → Runs miX11_none d [.ref 1, I_ 7] n (W0 dy) g (fun v n' S' g' => V maX11_plate (d + 1) 46 [(0, .ref 1), (1, I_ x1), (2, I_ x2), (3, .ref r3)] (v.toList ++ []) n' S' g' 0 0 P)))) ∧ ((xs0 ≠ 0) → Runs miX11_none d [.ref 1, I_ 3] n (W0 dy) g (fun v n' S' g' => V maX11_plate (d + 1) 28 [(0, .ref 1), (1, I_ x1), (2, I_ x2), (3, .ref r3)] (v.toList ++ []) n' S' g' 0 0 P))) : V maX11_plate (d + 1) 20 [(0, .ref 1), (1, I_ x1), (2, I_ x2), (3, .ref r3)] [I_ xs0] n (W0 dy) g 0 0 P := by
  have c1 := h.1
  have h := h.2
  refine v_if_eq 12 rfl (tgt := 29) rfl c1 (fun q2 => ?_) (fun q2 => ?_)
  · have h := h.1 q2
    refine v_iload_n 17 2 rfl rfl rfl ?_
    refine v_iconst 18 rfl ?_
    have c3 := h.1
    have h := h.2
    refine v_icmp_lt 19 rfl (tgt := 40) rfl c3 (by decide) (fun q4 => ?_) (fun q4 => ?_)
    · have h := h.1 q4
      refine v_aload_n 23 0 rfl rfl rfl ?_
      refine v_bipush 24 rfl (by decide) ?_
      refine v_callV (st := []) [I_ 7] 25 rfl lv11_135_plate_10a (al 1 rfl hn) (wk1 dy) (by decide) rfl (by decide) (by decide) ?_
      exact h
    · have h := h.2 q4
      refine v_iload_n 20 2 rfl rfl rfl ?_
      refine v_bipush 21 rfl (by decide) ?_
      refine v_icmp_le 22 rfl (tgt := 47) rfl c3 (by decide) (fun q5 => ?_) (fun q5 => ?_)
      · have h := h.1 q5
        refine v_aload_n 27 3 rfl rfl rfl ?_
        have c6 := h.1
        have h := h.2
        refine v_gI 28 rfl fl11_148_8.r c6.1 c6.2.1 (by decide) rfl c6.2.2.2.1 (x := g r3 1) rfl ?_
        refine v_rng fun w7 => ?_
        have p8 : i3 (g r3 1) := rI w7 (q := 1) c6.1 c6.2.1 rfl rfl
        refine v_iconst 29 rfl ?_
        refine v_iload_n 30 2 rfl rfl rfl ?_
        refine v_imul 31 rfl ?_
        have c9 := h.1
        have h := h.2
        refine v_icmp_ge 32 rfl (tgt := 63) rfl p8 c9 (fun q10 => ?_) (fun q10 => ?_)
        · have h := h.1 q10
          refine v_aload_n 37 0 rfl rfl rfl ?_
          refine v_gK 38 rfl fl11_38_10.r (al 1 rfl hn) (wk1 dy) (by decide) rfl (r := 6) (wc1_5 dy) ?_
          refine v_aload_n 39 3 rfl rfl rfl ?_
          refine v_iload_n 40 2 rfl rfl rfl ?_
          refine v_callV (st := []) [.ref r3, I_ x2] 41 rfl lv11_151_plate_4a (al 6 rfl hn) (wk6 dy) (by decide) rfl (by decide) (by decide) ?_
          exact h
        · have h := h.2 q10
          refine v_aload_n 33 0 rfl rfl rfl ?_
          refine v_iconst 34 rfl ?_
          refine v_callV (st := []) [I_ 4] 35 rfl lv11_135_plate_10a (al 1 rfl hn) (wk1 dy) (by decide) rfl (by decide) (by decide) ?_
          exact h
      · have h := h.2 q5
        refine v_aload_n 23 0 rfl rfl rfl ?_
        refine v_bipush 24 rfl (by decide) ?_
        refine v_callV (st := []) [I_ 7] 25 rfl lv11_135_plate_10a (al 1 rfl hn) (wk1 dy) (by decide) rfl (by decide) (by decide) ?_
        exact h
  · have h := h.2 q2
    refine v_aload_n 13 0 rfl rfl rfl ?_
    refine v_iconst 14 rfl ?_
    refine v_callV (st := []) [I_ 3] 15 rfl lv11_135_plate_10a (al 1 rfl hn) (wk1 dy) (by decide) rfl (by decide) (by decide) ?_
    exact h
set_option maxHeartbeats 8000000 in
set_option maxRecDepth 4000 in
theorem baX11_plate_28 {d n : Nat} {dy : Nat → Shp} {g : Hp} {P : Pst} {x1 : Int} {x2 : Int} {r3 : Nat} {xs0 : Int} (hn : 100 ≤ n) (h : P (some (I_ xs0)) n (W0 dy) g) : V maX11_plate (d + 1) 28 [(0, .ref 1), (1, I_ x1), (2, I_ x2), (3, .ref r3)] [I_ xs0] n (W0 dy) g 0 0 P := by
  exact v_ret (v := some (I_ xs0)) 16 rfl (Nat.zero_le _) (Nat.zero_le _) trivial rfl h
set_option maxHeartbeats 8000000 in
set_option maxRecDepth 4000 in
theorem baX11_plate_46 {d n : Nat} {dy : Nat → Shp} {g : Hp} {P : Pst} {x1 : Int} {x2 : Int} {r3 : Nat} {xs0 : Int} (hn : 100 ≤ n) (h : P (some (I_ xs0)) n (W0 dy) g) : V maX11_plate (d + 1) 46 [(0, .ref 1), (1, I_ x1), (2, I_ x2), (3, .ref r3)] [I_ xs0] n (W0 dy) g 0 0 P := by
  exact v_ret (v := some (I_ xs0)) 26 rfl (Nat.zero_le _) (Nat.zero_le _) trivial rfl h
set_option maxHeartbeats 8000000 in
set_option maxRecDepth 4000 in
theorem baX11_plate_62 {d n : Nat} {dy : Nat → Shp} {g : Hp} {P : Pst} {x1 : Int} {x2 : Int} {r3 : Nat} {xs0 : Int} (hn : 100 ≤ n) (h : P (some (I_ xs0)) n (W0 dy) g) : V maX11_plate (d + 1) 62 [(0, .ref 1), (1, I_ x1), (2, I_ x2), (3, .ref r3)] [I_ xs0] n (W0 dy) g 0 0 P := by
  exact v_ret (v := some (I_ xs0)) 36 rfl (Nat.zero_le _) (Nat.zero_le _) trivial rfl h
set_option maxHeartbeats 8000000 in
set_option maxRecDepth 4000 in
theorem baX11_plate_72 {d n : Nat} {dy : Nat → Shp} {g : Hp} {P : Pst} {x1 : Int} {x2 : Int} {r3 : Nat} {xs0 : Int} (hn : 100 ≤ n) (h : (i3 xs0) ∧ ((xs0 ≠ 0) → Runs miX5_touchesItself d [.ref 6] n (W0 dy) g (fun v n' S' g' => V maX11_plate (d + 1) 89 [(0, .ref 1), (1, I_ x1), (2, I_ x2), (3, .ref r3)] (v.toList ++ []) n' S' g' 0 0 P)) ∧ ((xs0 = 0) → Runs miX11_none d [.ref 1, I_ 7] n (W0 dy) g (fun v n' S' g' => V maX11_plate (d + 1) 81 [(0, .ref 1), (1, I_ x1), (2, I_ x2), (3, .ref r3)] (v.toList ++ []) n' S' g' 0 0 P))) : V maX11_plate (d + 1) 72 [(0, .ref 1), (1, I_ x1), (2, I_ x2), (3, .ref r3)] [I_ xs0] n (W0 dy) g 0 0 P := by
  have c1 := h.1
  have h := h.2
  refine v_if_ne 42 rfl (tgt := 82) rfl c1 (fun q2 => ?_) (fun q2 => ?_)
  · have h := h.1 q2
    refine v_aload_n 47 0 rfl rfl rfl ?_
    refine v_gK 48 rfl fl11_38_10.r (al 1 rfl hn) (wk1 dy) (by decide) rfl (r := 6) (wc1_5 dy) ?_
    refine v_callV (st := []) [] 49 rfl lv11_155_plate_4a (al 6 rfl hn) (wk6 dy) (by decide) rfl (by decide) (by decide) ?_
    exact h
  · have h := h.2 q2
    refine v_aload_n 43 0 rfl rfl rfl ?_
    refine v_bipush 44 rfl (by decide) ?_
    refine v_callV (st := []) [I_ 7] 45 rfl lv11_135_plate_10a (al 1 rfl hn) (wk1 dy) (by decide) rfl (by decide) (by decide) ?_
    exact h
set_option maxHeartbeats 8000000 in
set_option maxRecDepth 4000 in
theorem baX11_plate_81 {d n : Nat} {dy : Nat → Shp} {g : Hp} {P : Pst} {x1 : Int} {x2 : Int} {r3 : Nat} {xs0 : Int} (hn : 100 ≤ n) (h : P (some (I_ xs0)) n (W0 dy) g) : V maX11_plate (d + 1) 81 [(0, .ref 1), (1, I_ x1), (2, I_ x2), (3, .ref r3)] [I_ xs0] n (W0 dy) g 0 0 P := by
  exact v_ret (v := some (I_ xs0)) 46 rfl (Nat.zero_le _) (Nat.zero_le _) trivial rfl h
set_option maxHeartbeats 8000000 in
set_option maxRecDepth 4000 in
theorem baX11_plate_89 {d n : Nat} {dy : Nat → Shp} {g : Hp} {P : Pst} {x1 : Int} {x2 : Int} {r3 : Nat} {xs0 : Int} (hn : 100 ≤ n) (h : (i3 xs0) ∧ ((xs0 = 0) → (((g 1 2) < 60) → Runs miX4_init d [.ref (n), I_ (g 1 2), .ref 6] (n + 1) (W0 (dyu dy n 3)) (upr g n (fun _ => 0)) (fun v n' S' g' => V maX11_plate (d + 1) 131 [(0, .ref 1), (1, I_ x1), (2, I_ x2), (3, .ref r3)] (v.toList ++ [.ref (n), .ref 1]) n' S' g' 1 14 P)) ∧ ((60 ≤ (g 1 2)) → Runs miX11_none d [.ref 1, I_ 10] n (W0 dy) g (fun v n' S' g' => V maX11_plate (d + 1) 114 [(0, .ref 1), (1, I_ x1), (2, I_ x2), (3, .ref r3)] (v.toList ++ []) n' S' g' 0 0 P))) ∧ ((xs0 ≠ 0) → Runs miX11_none d [.ref 1, I_ 12] n (W0 dy) g (fun v n' S' g' => V maX11_plate (d + 1) 98 [(0, .ref 1), (1, I_ x1), (2, I_ x2), (3, .ref r3)] (v.toList ++ []) n' S' g' 0 0 P))) : V maX11_plate (d + 1) 89 [(0, .ref 1), (1, I_ x1), (2, I_ x2), (3, .ref r3)] [I_ xs0] n (W0 dy) g 0 0 P := by
  have c1 := h.1
  have h := h.2
  refine v_if_eq 50 rfl (tgt := 99) rfl c1 (fun q2 => ?_) (fun q2 => ?_)
  · have h := h.1 q2
    refine v_aload_n 55 0 rfl rfl rfl ?_
    refine v_gI 56 rfl fl11_21_10.r (al 1 rfl hn) (wk1 dy) (by decide) rfl (wc1_2 dy) (x := g 1 2) rfl ?_
    refine v_rng fun w3 => ?_
    have p4 : i3 (g 1 2) := rI w3 (q := 2) (al 1 rfl hn) (wk1 dy) rfl rfl
    refine v_bipush 57 rfl (by decide) ?_
    refine v_icmp_lt 58 rfl (tgt := 115) rfl p4 (by decide) (fun q5 => ?_) (fun q5 => ?_)
    · have h := h.1 q5
      refine v_aload_n 63 0 rfl rfl rfl ?_
      refine v_new 64 rfl nw11_158 (by decide) (Nat.lt_of_lt_of_le (by decide) hn) (fun i hi => W0_dyu 3 (Nat.ne_of_lt hi) hn) (W0_dyn 3 hn) (by decide) (by decide) ?_
      have hN : Ob (n + 1) (W0 (dyu dy n 3)) n 3 := ob_new 3 hn
      have hn : 100 ≤ n + 1 := Nat.le_succ_of_le hn
      refine v_dup 65 rfl (by intro h; cases h) ?_
      refine v_aload_n 66 0 rfl rfl rfl ?_
      refine v_gI 67 rfl fl11_21_10.r (al 1 rfl hn) (wk1 (dyu dy n 3)) (by decide) rfl (wc1_2 (dyu dy n 3)) (x := g 1 2) (upr_ne (by omega)) ?_
      refine v_rng fun w6 => ?_
      have p7 : i3 (g 1 2) := rI w6 (q := 2) (al 1 rfl hn) (wk1 (dyu dy n 3)) rfl (upr_ne (by omega))
      refine v_aload_n 68 0 rfl rfl rfl ?_
      refine v_gK 69 rfl fl11_38_10.r (al 1 rfl hn) (wk1 (dyu dy n 3)) (by decide) rfl (r := 6) (wc1_5 (dyu dy n 3)) ?_
      refine v_callI (st := [.ref (n), .ref 1]) [I_ (g 1 2), .ref 6] 70 rfl li11_160_platea rfl hN.1 rfl (by decide) (by decide) ?_
      exact h
    · have h := h.2 q5
      refine v_aload_n 59 0 rfl rfl rfl ?_
      refine v_bipush 60 rfl (by decide) ?_
      refine v_callV (st := []) [I_ 10] 61 rfl lv11_135_plate_10a (al 1 rfl hn) (wk1 dy) (by decide) rfl (by decide) (by decide) ?_
      exact h
  · have h := h.2 q2
    refine v_aload_n 51 0 rfl rfl rfl ?_
    refine v_bipush 52 rfl (by decide) ?_
    refine v_callV (st := []) [I_ 12] 53 rfl lv11_135_plate_10a (al 1 rfl hn) (wk1 dy) (by decide) rfl (by decide) (by decide) ?_
    exact h
set_option maxHeartbeats 8000000 in
set_option maxRecDepth 4000 in
theorem baX11_plate_98 {d n : Nat} {dy : Nat → Shp} {g : Hp} {P : Pst} {x1 : Int} {x2 : Int} {r3 : Nat} {xs0 : Int} (hn : 100 ≤ n) (h : P (some (I_ xs0)) n (W0 dy) g) : V maX11_plate (d + 1) 98 [(0, .ref 1), (1, I_ x1), (2, I_ x2), (3, .ref r3)] [I_ xs0] n (W0 dy) g 0 0 P := by
  exact v_ret (v := some (I_ xs0)) 54 rfl (Nat.zero_le _) (Nat.zero_le _) trivial rfl h
set_option maxHeartbeats 8000000 in
set_option maxRecDepth 4000 in
theorem baX11_plate_114 {d n : Nat} {dy : Nat → Shp} {g : Hp} {P : Pst} {x1 : Int} {x2 : Int} {r3 : Nat} {xs0 : Int} (hn : 100 ≤ n) (h : P (some (I_ xs0)) n (W0 dy) g) : V maX11_plate (d + 1) 114 [(0, .ref 1), (1, I_ x1), (2, I_ x2), (3, .ref r3)] [I_ xs0] n (W0 dy) g 0 0 P := by
  exact v_ret (v := some (I_ xs0)) 62 rfl (Nat.zero_le _) (Nat.zero_le _) trivial rfl h
set_option maxHeartbeats 8000000 in
set_option maxRecDepth 4000 in
theorem baX11_plate_131 {d n : Nat} {dy : Nat → Shp} {g : Hp} {P : Pst} {x1 : Int} {x2 : Int} {r3 : Nat} {rs1 : Nat} (hn : 100 ≤ n) (h : Runs miX11_added d [.ref 1, .ref rs1] n (W0 dy) g (fun v n' S' g' => V maX11_plate (d + 1) 134 [(0, .ref 1), (1, I_ x1), (2, I_ x2), (3, .ref r3)] (v.toList ++ []) n' S' g' 1 14 P)) : V maX11_plate (d + 1) 131 [(0, .ref 1), (1, I_ x1), (2, I_ x2), (3, .ref r3)] [.ref rs1, .ref 1] n (W0 dy) g 1 14 P := by
  refine v_callV (st := []) [.ref rs1] 71 rfl lv11_144_plate_10a (al 1 rfl hn) (wk1 dy) (by decide) rfl (by decide) (by decide) ?_
  exact h
set_option maxHeartbeats 8000000 in
set_option maxRecDepth 4000 in
theorem baX11_plate_134 {d n : Nat} {dy : Nat → Shp} {g : Hp} {P : Pst} {x1 : Int} {x2 : Int} {r3 : Nat} {xs0 : Int} (hn : 100 ≤ n) (h : P (some (I_ xs0)) n (W0 dy) g) : V maX11_plate (d + 1) 134 [(0, .ref 1), (1, I_ x1), (2, I_ x2), (3, .ref r3)] [I_ xs0] n (W0 dy) g 1 14 P := by
  exact v_ret (v := some (I_ xs0)) 72 rfl (by decide) (by decide) trivial rfl h
theorem waX11_plate {d n : Nat} {dy : Nat → Shp} {g : Hp} {P : Pst} {x1 : Int} {x2 : Int} (hn : 100 ≤ n) (h : Runs miX11_trayAt d [.ref 1, I_ x1] n (W0 dy) g (fun v n' S' g' => V maX11_plate (d + 1) 5 [(0, .ref 1), (1, I_ x1), (2, I_ x2)] (v.toList ++ []) n' S' g' 0 0 P)) : Runs maX11_plate (d + 1) [.ref 1, I_ x1, I_ x2] n (W0 dy) g P := Runs.of rfl rfl deX11_plate (Nat.le_of_ble_eq_true rfl) (baX11_plate_0 hn h)
theorem lv11_131_weight_10a : LkV maX11_weight maX11_newWeight 131 1 10 := ⟨⟨⟨tbG_in (List.mem_append_right _ (List.mem_of_getElem? (i := 331) (by decide +kernel))) rfl, tbG_in (List.mem_append_right _ (List.mem_of_getElem? (i := 1) (by decide +kernel))) rfl, tbG_in (List.mem_append_right _ (List.mem_of_getElem? (i := 328) (by decide +kernel))) rfl⟩, ⟨by decide +kernel, by decide +kernel, by decide +kernel⟩, by decide⟩, tbG_in (List.mem_append_right _ (List.mem_of_getElem? (i := 330) (by decide +kernel))) rfl, RX11, TX11, 13, rfl, tbG_in (List.mem_append_left _ (List.mem_of_getElem? (i := 3) (by decide +kernel))) rfl⟩
set_option maxHeartbeats 8000000 in
set_option maxRecDepth 4000 in
theorem baX11_weight_0 {d n : Nat} {dy : Nat → Shp} {g : Hp} {P : Pst} {x1 : Int} (hn : 100 ≤ n) (h : (i3 x1) ∧ Runs maX11_newWeight d [.ref 1, L_ x1] n (W0 dy) g (fun v n' S' g' => V maX11_weight (d + 1) 6 [(0, .ref 1), (1, I_ x1)] (v.toList ++ []) n' S' g' 1 10 P)) : V maX11_weight (d + 1) 0 [(0, .ref 1), (1, I_ x1)] [] n (W0 dy) g 0 0 P := by
  refine v_aload_n 0 0 rfl rfl rfl ?_
  refine v_iload_n 1 1 rfl rfl rfl ?_
  have c1 := h.1
  have h := h.2
  refine v_i2l 2 rfl c1 ?_
  refine v_callV (st := []) [L_ x1] 3 rfl lv11_131_weight_10a (al 1 rfl hn) (wk1 dy) (by decide) rfl (by decide) (by decide) ?_
  exact h
set_option maxHeartbeats 8000000 in
set_option maxRecDepth 4000 in
theorem baX11_weight_6 {d n : Nat} {dy : Nat → Shp} {g : Hp} {P : Pst} {x1 : Int} {xs0 : Int} (hn : 100 ≤ n) (h : P (some (I_ xs0)) n (W0 dy) g) : V maX11_weight (d + 1) 6 [(0, .ref 1), (1, I_ x1)] [I_ xs0] n (W0 dy) g 1 10 P := by
  exact v_ret (v := some (I_ xs0)) 4 rfl (by decide) (by decide) trivial rfl h
theorem waX11_weight {d n : Nat} {dy : Nat → Shp} {g : Hp} {P : Pst} {x1 : Int} (hn : 100 ≤ n) (h : (i3 x1) ∧ Runs maX11_newWeight d [.ref 1, L_ x1] n (W0 dy) g (fun v n' S' g' => V maX11_weight (d + 1) 6 [(0, .ref 1), (1, I_ x1)] (v.toList ++ []) n' S' g' 1 10 P)) : Runs maX11_weight (d + 1) [.ref 1, I_ x1] n (W0 dy) g P := Runs.of rfl rfl deX11_weight (Nat.le_of_ble_eq_true rfl) (baX11_weight_0 hn h)
theorem lv11_81_load_10a : LkV maX11_load miX11_trayAt 81 1 10 := ⟨⟨⟨tbG_in (List.mem_append_right _ (List.mem_of_getElem? (i := 267) (by decide +kernel))) rfl, tbG_in (List.mem_append_right _ (List.mem_of_getElem? (i := 1) (by decide +kernel))) rfl, tbG_in (List.mem_append_right _ (List.mem_of_getElem? (i := 264) (by decide +kernel))) rfl⟩, ⟨by decide +kernel, by decide +kernel, by decide +kernel⟩, by decide⟩, tbG_in (List.mem_append_right _ (List.mem_of_getElem? (i := 266) (by decide +kernel))) rfl, RX11, TX11, 13, rfl, tbG_in (List.mem_append_left _ (List.mem_of_getElem? (i := 0) (by decide +kernel))) rfl⟩
theorem ls11_97_loada : LkS maX11_load miX11_placeStatus 97 2 := ⟨⟨⟨tbG_in (List.mem_append_right _ (List.mem_of_getElem? (i := 289) (by decide +kernel))) rfl, tbG_in (List.mem_append_right _ (List.mem_of_getElem? (i := 1) (by decide +kernel))) rfl, tbG_in (List.mem_append_right _ (List.mem_of_getElem? (i := 287) (by decide +kernel))) rfl⟩, ⟨by decide +kernel, by decide +kernel, by decide +kernel⟩, by decide⟩, tbG_in (List.mem_append_right _ (List.mem_of_getElem? (i := 288) (by decide +kernel))) rfl⟩
theorem lv11_135_load_10a : LkV maX11_load miX11_none 135 1 10 := ⟨⟨⟨tbG_in (List.mem_append_right _ (List.mem_of_getElem? (i := 336) (by decide +kernel))) rfl, tbG_in (List.mem_append_right _ (List.mem_of_getElem? (i := 1) (by decide +kernel))) rfl, tbG_in (List.mem_append_right _ (List.mem_of_getElem? (i := 333) (by decide +kernel))) rfl⟩, ⟨by decide +kernel, by decide +kernel, by decide +kernel⟩, by decide⟩, tbG_in (List.mem_append_right _ (List.mem_of_getElem? (i := 335) (by decide +kernel))) rfl, RX11, TX11, 13, rfl, tbG_in (List.mem_append_left _ (List.mem_of_getElem? (i := 4) (by decide +kernel))) rfl⟩
theorem lv11_105_load_8a : LkV maX11_load miX9_at 105 1 8 := ⟨⟨⟨tbG_in (List.mem_append_right _ (List.mem_of_getElem? (i := 310) (by decide +kernel))) rfl, tbG_in (List.mem_append_right _ (List.mem_of_getElem? (i := 8) (by decide +kernel))) rfl, tbG_in (List.mem_append_right _ (List.mem_of_getElem? (i := 307) (by decide +kernel))) rfl⟩, ⟨by decide +kernel, by decide +kernel, by decide +kernel⟩, by decide⟩, tbG_in (List.mem_append_right _ (List.mem_of_getElem? (i := 308) (by decide +kernel))) rfl, RX9, TX9, 3, rfl, tbG_in (List.mem_append_right _ (List.mem_of_getElem? (i := 309) (by decide +kernel))) rfl⟩
theorem lv11_131_load_10a : LkV maX11_load maX11_newWeight 131 1 10 := ⟨⟨⟨tbG_in (List.mem_append_right _ (List.mem_of_getElem? (i := 331) (by decide +kernel))) rfl, tbG_in (List.mem_append_right _ (List.mem_of_getElem? (i := 1) (by decide +kernel))) rfl, tbG_in (List.mem_append_right _ (List.mem_of_getElem? (i := 328) (by decide +kernel))) rfl⟩, ⟨by decide +kernel, by decide +kernel, by decide +kernel⟩, by decide⟩, tbG_in (List.mem_append_right _ (List.mem_of_getElem? (i := 330) (by decide +kernel))) rfl, RX11, TX11, 13, rfl, tbG_in (List.mem_append_left _ (List.mem_of_getElem? (i := 3) (by decide +kernel))) rfl⟩
set_option maxHeartbeats 8000000 in
set_option maxRecDepth 4000 in
theorem baX11_load_0 {d n : Nat} {dy : Nat → Shp} {g : Hp} {P : Pst} {x1 : Int} {x2 : Int} (hn : 100 ≤ n) (h : Runs miX11_trayAt d [.ref 1, I_ x1] n (W0 dy) g (fun v n' S' g' => V maX11_load (d + 1) 5 [(0, .ref 1), (1, I_ x1), (2, I_ x2)] (v.toList ++ []) n' S' g' 0 0 P)) : V maX11_load (d + 1) 0 [(0, .ref 1), (1, I_ x1), (2, I_ x2)] [] n (W0 dy) g 0 0 P := by
  refine v_aload_n 0 0 rfl rfl rfl ?_
  refine v_iload_n 1 1 rfl rfl rfl ?_
  refine v_callV (st := []) [I_ x1] 2 rfl lv11_81_load_10a (al 1 rfl hn) (wk1 dy) (by decide) rfl (by decide) (by decide) ?_
  exact h
set_option maxHeartbeats 8000000 in
set_option maxRecDepth 4000 in
theorem baX11_load_5 {d n : Nat} {dy : Nat → Shp} {g : Hp} {P : Pst} {x1 : Int} {x2 : Int} {rs0 : Nat} (hn : 100 ≤ n) (h : Runs miX11_placeStatus d [.ref rs0, I_ x2] n (W0 dy) g (fun v n' S' g' => V maX11_load (d + 1) 11 [(0, .ref 1), (1, I_ x1), (2, I_ x2), (3, .ref rs0)] (v.toList ++ []) n' S' g' 0 0 P)) : V maX11_load (d + 1) 5 [(0, .ref 1), (1, I_ x1), (2, I_ x2)] [.ref rs0] n (W0 dy) g 0 0 P := by
  refine v_astore_n 3 [1, 2, 3, 0] rfl rfl (by decide) rfl ?_
  refine v_aload_n 4 3 rfl rfl rfl ?_
  refine v_iload_n 5 2 rfl rfl rfl ?_
  refine v_callS (st := []) [.ref rs0, I_ x2] 6 rfl ls11_97_loada rfl (Nat.lt_of_lt_of_le (by decide) hn) (by decide) (by decide) ?_
  exact h
set_option maxHeartbeats 8000000 in
set_option maxRecDepth 4000 in
theorem baX11_load_11 {d n : Nat} {dy : Nat → Shp} {g : Hp} {P : Pst} {x1 : Int} {x2 : Int} {r3 : Nat} {xs0 : Int} (hn : 100 ≤ n) (h : (i3 xs0) ∧ ((xs0 ≠ 0) → Runs miX11_none d [.ref 1, I_ xs0] n (W0 dy) g (fun v n' S' g' => V maX11_load (d + 1) 28 [(0, .ref 1), (1, I_ x1), (2, I_ x2), (3, .ref r3), (4, I_ xs0)] (v.toList ++ []) n' S' g' 0 0 P)) ∧ ((xs0 = 0) → ((0 < r3) → (Tr n (W0 dy) r3) ∧ Runs miX9_at d [.ref r3, I_ x2] n (W0 dy) g (fun v n' S' g' => V maX11_load (d + 1) 35 [(0, .ref 1), (1, I_ x1), (2, I_ x2), (3, .ref r3), (4, I_ xs0)] (v.toList ++ [.ref 1]) n' S' g' 0 0 P)) ∧ ((r3 = 0) → Runs miX11_none d [.ref 1, I_ xs0] n (W0 dy) g (fun v n' S' g' => V maX11_load (d + 1) 28 [(0, .ref 1), (1, I_ x1), (2, I_ x2), (3, .ref r3), (4, I_ xs0)] (v.toList ++ []) n' S' g' 0 0 P)))) : V maX11_load (d + 1) 11 [(0, .ref 1), (1, I_ x1), (2, I_ x2), (3, .ref r3)] [I_ xs0] n (W0 dy) g 0 0 P := by
  refine v_istore 7 [1, 2, 3, 4, 0] rfl (by decide) rfl ?_
  refine v_iload 8 4 rfl rfl ?_
  have c1 := h.1
  have h := h.2
  refine v_if_ne 9 rfl (tgt := 22) rfl c1 (fun q2 => ?_) (fun q2 => ?_)
  · have h := h.1 q2
    refine v_aload_n 12 0 rfl rfl rfl ?_
    refine v_iload 13 4 rfl rfl ?_
    refine v_callV (st := []) [I_ xs0] 14 rfl lv11_135_load_10a (al 1 rfl hn) (wk1 dy) (by decide) rfl (by decide) (by decide) ?_
    exact h
  · have h := h.2 q2
    refine v_aload_n 10 3 rfl rfl rfl ?_
    refine v_ifnonnull 11 rfl (tgt := 29) rfl (fun q3 => ?_) (fun q3 => ?_)
    · have h := h.1 q3
      refine v_aload_n 16 0 rfl rfl rfl ?_
      refine v_aload_n 17 3 rfl rfl rfl ?_
      refine v_iload_n 18 2 rfl rfl rfl ?_
      have c4 := h.1
      have h := h.2
      refine v_callV (st := [.ref 1]) [I_ x2] 19 rfl lv11_105_load_8a c4.1 c4.2.1 (by decide) rfl (by decide) (by decide) ?_
      exact h
    · have h := h.2 q3
      refine v_aload_n 12 0 rfl rfl rfl ?_
      refine v_iload 13 4 rfl rfl ?_
      refine v_callV (st := []) [I_ xs0] 14 rfl lv11_135_load_10a (al 1 rfl hn) (wk1 dy) (by decide) rfl (by decide) (by decide) ?_
      exact h
set_option maxHeartbeats 8000000 in
set_option maxRecDepth 4000 in
theorem baX11_load_28 {d n : Nat} {dy : Nat → Shp} {g : Hp} {P : Pst} {x1 : Int} {x2 : Int} {r3 : Nat} {x4 : Int} {xs0 : Int} (hn : 100 ≤ n) (h : P (some (I_ xs0)) n (W0 dy) g) : V maX11_load (d + 1) 28 [(0, .ref 1), (1, I_ x1), (2, I_ x2), (3, .ref r3), (4, I_ x4)] [I_ xs0] n (W0 dy) g 0 0 P := by
  exact v_ret (v := some (I_ xs0)) 15 rfl (Nat.zero_le _) (Nat.zero_le _) trivial rfl h
set_option maxHeartbeats 8000000 in
set_option maxRecDepth 4000 in
theorem baX11_load_35 {d n : Nat} {dy : Nat → Shp} {g : Hp} {P : Pst} {x1 : Int} {x2 : Int} {r3 : Nat} {x4 : Int} {xs1 : Int} (hn : 100 ≤ n) (h : Runs maX11_newWeight d [.ref 1, L_ xs1] n (W0 dy) g (fun v n' S' g' => V maX11_load (d + 1) 38 [(0, .ref 1), (1, I_ x1), (2, I_ x2), (3, .ref r3), (4, I_ x4)] (v.toList ++ []) n' S' g' 1 10 P)) : V maX11_load (d + 1) 35 [(0, .ref 1), (1, I_ x1), (2, I_ x2), (3, .ref r3), (4, I_ x4)] [L_ xs1, .ref 1] n (W0 dy) g 0 0 P := by
  refine v_callV (st := []) [L_ xs1] 20 rfl lv11_131_load_10a (al 1 rfl hn) (wk1 dy) (by decide) rfl (by decide) (by decide) ?_
  exact h
set_option maxHeartbeats 8000000 in
set_option maxRecDepth 4000 in
theorem baX11_load_38 {d n : Nat} {dy : Nat → Shp} {g : Hp} {P : Pst} {x1 : Int} {x2 : Int} {r3 : Nat} {x4 : Int} {xs0 : Int} (hn : 100 ≤ n) (h : P (some (I_ xs0)) n (W0 dy) g) : V maX11_load (d + 1) 38 [(0, .ref 1), (1, I_ x1), (2, I_ x2), (3, .ref r3), (4, I_ x4)] [I_ xs0] n (W0 dy) g 1 10 P := by
  exact v_ret (v := some (I_ xs0)) 21 rfl (by decide) (by decide) trivial rfl h
theorem waX11_load {d n : Nat} {dy : Nat → Shp} {g : Hp} {P : Pst} {x1 : Int} {x2 : Int} (hn : 100 ≤ n) (h : Runs miX11_trayAt d [.ref 1, I_ x1] n (W0 dy) g (fun v n' S' g' => V maX11_load (d + 1) 5 [(0, .ref 1), (1, I_ x1), (2, I_ x2)] (v.toList ++ []) n' S' g' 0 0 P)) : Runs maX11_load (d + 1) [.ref 1, I_ x1, I_ x2] n (W0 dy) g P := Runs.of rfl rfl deX11_load (Nat.le_of_ble_eq_true rfl) (baX11_load_0 hn h)
