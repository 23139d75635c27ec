/-! CONSTRUCTOR of the class -/
def naX11_init : MI := (miX11_init.1, miX11_init.2.1, (51, 8860), miX11_init.2.2.2)
theorem nw11_28 : NW RX11 28 1 := ⟨RX1, TX1, 3, tyX1, rfl, rfl, kf1, tyX1_ok, tbG_in (List.mem_append_right _ (List.mem_of_getElem? (i := 34) (by decide +kernel))) rfl, tbG_in (List.mem_append_right _ (List.mem_of_getElem? (i := 35) (by decide +kernel))) rfl, tbG_in (List.mem_append_right _ (List.mem_of_getElem? (i := 2) (by decide +kernel))) rfl, by decide⟩
theorem lic11_30 : LkIN naX11_init naX1_init 30 0 := ⟨⟨tbG_in (List.mem_append_right _ (List.mem_of_getElem? (i := 38) (by decide +kernel))) rfl, tbG_in (List.mem_append_right _ (List.mem_of_getElem? (i := 2) (by decide +kernel))) rfl, by decide⟩, ⟨by decide +kernel, by decide +kernel, by decide +kernel⟩, by decide, rfl, tbG_in (List.mem_append_right _ (List.mem_of_getElem? (i := 37) (by decide +kernel))) rfl⟩
theorem nw11_35 : NW RX11 35 4 := ⟨RX5, TX5, 3, tyX5, rfl, rfl, kf4, tyX5_ok, tbG_in (List.mem_append_right _ (List.mem_of_getElem? (i := 53) (by decide +kernel))) rfl, tbG_in (List.mem_append_right _ (List.mem_of_getElem? (i := 54) (by decide +kernel))) rfl, tbG_in (List.mem_append_right _ (List.mem_of_getElem? (i := 3) (by decide +kernel))) rfl, by decide⟩
theorem lic11_37 : LkIN naX11_init naX5_init 37 0 := ⟨⟨tbG_in (List.mem_append_right _ (List.mem_of_getElem? (i := 57) (by decide +kernel))) rfl, tbG_in (List.mem_append_right _ (List.mem_of_getElem? (i := 3) (by decide +kernel))) rfl, by decide⟩, ⟨by decide +kernel, by decide +kernel, by decide +kernel⟩, by decide, rfl, tbG_in (List.mem_append_right _ (List.mem_of_getElem? (i := 56) (by decide +kernel))) rfl⟩
theorem nw11_42 : NW RX11 42 6 := ⟨RX7, TX7, 3, tyX7, rfl, rfl, kf6, tyX7_ok, tbG_in (List.mem_append_right _ (List.mem_of_getElem? (i := 70) (by decide +kernel))) rfl, tbG_in (List.mem_append_right _ (List.mem_of_getElem? (i := 71) (by decide +kernel))) rfl, tbG_in (List.mem_append_right _ (List.mem_of_getElem? (i := 4) (by decide +kernel))) rfl, by decide⟩
theorem lic11_44 : LkIN naX11_init naX7_init 44 0 := ⟨⟨tbG_in (List.mem_append_right _ (List.mem_of_getElem? (i := 74) (by decide +kernel))) rfl, tbG_in (List.mem_append_right _ (List.mem_of_getElem? (i := 4) (by decide +kernel))) rfl, by decide⟩, ⟨by decide +kernel, by decide +kernel, by decide +kernel⟩, by decide, rfl, tbG_in (List.mem_append_right _ (List.mem_of_getElem? (i := 73) (by decide +kernel))) rfl⟩
theorem nw11_52 : NW RX11 52 0 := ⟨RX0, TX0, 11, tyX0, rfl, rfl, kf0, tyX0_ok, tbG_in (List.mem_append_right _ (List.mem_of_getElem? (i := 88) (by decide +kernel))) rfl, tbG_in (List.mem_append_right _ (List.mem_of_getElem? (i := 89) (by decide +kernel))) rfl, tbG_in (List.mem_append_right _ (List.mem_of_getElem? (i := 5) (by decide +kernel))) rfl, by decide⟩
theorem lic11_54 : LkIN naX11_init naX0_init 54 0 := ⟨⟨tbG_in (List.mem_append_right _ (List.mem_of_getElem? (i := 92) (by decide +kernel))) rfl, tbG_in (List.mem_append_right _ (List.mem_of_getElem? (i := 5) (by decide +kernel))) rfl, by decide⟩, ⟨by decide +kernel, by decide +kernel, by decide +kernel⟩, by decide, rfl, tbG_in (List.mem_append_right _ (List.mem_of_getElem? (i := 91) (by decide +kernel))) rfl⟩
theorem nw11_59 : NW RX11 59 2 := ⟨RX3, TX3, 11, tyX3, rfl, rfl, kf2, tyX3_ok, tbG_in (List.mem_append_right _ (List.mem_of_getElem? (i := 130) (by decide +kernel))) rfl, tbG_in (List.mem_append_right _ (List.mem_of_getElem? (i := 131) (by decide +kernel))) rfl, tbG_in (List.mem_append_right _ (List.mem_of_getElem? (i := 6) (by decide +kernel))) rfl, by decide⟩
theorem lic11_61 : LkIN naX11_init naX3_init 61 0 := ⟨⟨tbG_in (List.mem_append_right _ (List.mem_of_getElem? (i := 134) (by decide +kernel))) rfl, tbG_in (List.mem_append_right _ (List.mem_of_getElem? (i := 6) (by decide +kernel))) rfl, by decide⟩, ⟨by decide +kernel, by decide +kernel, by decide +kernel⟩, by decide, rfl, tbG_in (List.mem_append_right _ (List.mem_of_getElem? (i := 133) (by decide +kernel))) rfl⟩
theorem nw11_73 : NW RX11 73 7 := ⟨RX8, TX8, 5, tyX8, rfl, rfl, kf7, tyX8_ok, tbG_in (List.mem_append_right _ (List.mem_of_getElem? (i := 172) (by decide +kernel))) rfl, tbG_in (List.mem_append_right _ (List.mem_of_getElem? (i := 173) (by decide +kernel))) rfl, tbG_in (List.mem_append_right _ (List.mem_of_getElem? (i := 7) (by decide +kernel))) rfl, by decide⟩
theorem lic11_75 : LkIN naX11_init naX8_init 75 0 := ⟨⟨tbG_in (List.mem_append_right _ (List.mem_of_getElem? (i := 176) (by decide +kernel))) rfl, tbG_in (List.mem_append_right _ (List.mem_of_getElem? (i := 7) (by decide +kernel))) rfl, by decide⟩, ⟨by decide +kernel, by decide +kernel, by decide +kernel⟩, by decide, rfl, tbG_in (List.mem_append_right _ (List.mem_of_getElem? (i := 175) (by decide +kernel))) rfl⟩
theorem nw11_9 : NW RX11 9 8 := ⟨RX9, TX9, 3, tyX9, rfl, rfl, kf8, tyX9_ok, tbG_in (List.mem_append_right _ (List.mem_of_getElem? (i := 30) (by decide +kernel))) rfl, tbG_in (List.mem_append_right _ (List.mem_of_getElem? (i := 197) (by decide +kernel))) rfl, tbG_in (List.mem_append_right _ (List.mem_of_getElem? (i := 8) (by decide +kernel))) rfl, by decide⟩
theorem lic11_80 : LkIN naX11_init naX9_init 80 0 := ⟨⟨tbG_in (List.mem_append_right _ (List.mem_of_getElem? (i := 200) (by decide +kernel))) rfl, tbG_in (List.mem_append_right _ (List.mem_of_getElem? (i := 8) (by decide +kernel))) rfl, by decide⟩, ⟨by decide +kernel, by decide +kernel, by decide +kernel⟩, by decide, rfl, tbG_in (List.mem_append_right _ (List.mem_of_getElem? (i := 199) (by decide +kernel))) rfl⟩
set_option maxHeartbeats 4000000 in
set_option maxRecDepth 4000 in
theorem ct1 {d : Nat} {g : Hp} {P : Pst} (hz : ∀ q, g 1 q = 0) (h : ∀ g' : Hp, JJ 1 53 g g' → P none 53 SK0 g') : Runs naX11_init (d + 2) [.ref 1] 2 SK0 g P := by
  refine Runs.of rfl rfl deX11_init (Nat.le_of_ble_eq_true rfl) ?_
  show V naX11_init (d + 2) 0 [(0, .ref 1)] [] 2 SK0 g 0 0 P
  have hJ := JJ.zero hz (by decide +kernel : ckz 1 = true)
  refine v_aload_n 0 0 rfl rfl rfl ?_
  refine v_objInit 1 rfl (tbG_in (List.mem_append_right _ (List.mem_of_getElem? (i := 27) (by decide +kernel))) rfl) (tbG_in (List.mem_append_right _ (List.mem_of_getElem? (i := 28) (by decide +kernel))) rfl) (tbG_in (List.mem_append_right _ (List.mem_of_getElem? (i := 29) (by decide +kernel))) rfl) (by decide) rfl ?_
  refine v_aload_n 2 0 rfl rfl rfl ?_
  refine v_bipush 3 rfl rfl ?_
  refine st_ac (t := 18) (N := 6) (a := 1) (f := 0) (ci := 10) (E := "MobileMaker$Tray") 4 5 rfl rfl (tbG_in (List.mem_append_right _ (List.mem_of_getElem? (i := 30) (by decide +kernel))) rfl) (fun _ w => w.2.2.2.2.1) (by decide) (fun _ => rfl) (fun _ => rfl) (by decide) fl11_11_10 (by decide) rfl rfl (by decide) rfl rfl (by decide) (by decide) (fun g0 e1 e2 => ?_)
  replace hJ := hJ.arr (by decide) (by decide) e1 e2 rfl (by decide +kernel) (by decide +kernel)
  clear e1 e2
  refine v_aload_n 6 0 rfl rfl rfl ?_
  refine v_bipush 7 rfl rfl ?_
  refine st_ac (t := 16) (N := 60) (a := 1) (f := 1) (ci := 10) (E := "MobileMaker$Part") 8 9 rfl rfl (tbG_in (List.mem_append_right _ (List.mem_of_getElem? (i := 32) (by decide +kernel))) rfl) (fun _ w => w.2.2.1) (by decide) (fun _ => rfl) (fun _ => rfl) (by decide) fl11_17_10 (by decide) rfl rfl (by decide) rfl rfl (by decide) (by decide) (fun g1 e1 e2 => ?_)
  replace hJ := hJ.arr (by decide) (by decide) e1 e2 rfl (by decide +kernel) (by decide +kernel)
  clear e1 e2
  refine v_aload_n 10 0 rfl rfl rfl ?_
  refine v_iconst 11 rfl ?_
  refine v_putI 12 rfl fl11_21_10 (by decide) rfl (by decide) rfl rfl (by decide) ?_
  replace hJ := hJ.put (c := 1) (q := 2) (v := 0) (by decide) (cput (o := some 0) rfl (Or.inr rfl))
  refine v_aload_n 13 0 rfl rfl rfl ?_
  refine v_iconst 14 rfl ?_
  refine v_putI 15 rfl fl11_25_10 (by decide) rfl (by decide) rfl rfl (by decide) ?_
  replace hJ := hJ.put (c := 1) (q := 3) (v := 0) (by decide) (cput (o := some 0) rfl (Or.inr rfl))
  refine v_aload_n 16 0 rfl rfl rfl ?_
  refine v_new (S' := SK0) 17 rfl nw11_28 (by decide) (by decide) (fun _ _ => rfl) rfl (by decide) (by decide) ?_
  refine v_dup 18 rfl (by decide) ?_
  refine v_callIN (M' := naX1_init) (a := 4) (st := [.ref 4, .ref 1]) [] 19 rfl lic11_30 rfl (by decide) rfl (by decide) (by decide) ?_
  refine ct4 (fun q => upr_s) (fun g2 hg => ?_)
  show V naX11_init _ 40 [(0, .ref 1)] [.ref 4, .ref 1] 6 SK0 g2 4 129 P
  refine v_putFR (r := 4) 20 rfl fl11_31_10 (by decide) rfl (by decide) rfl rfl rfl ?_
  replace hJ := hJ.ctor (c := 1) (f := 4) hg (by decide) (by decide) rfl (by decide +kernel)
  clear hg
  refine v_aload_n 21 0 rfl rfl rfl ?_
  refine v_new (S' := SK0) 22 rfl nw11_35 (by decide) (by decide) (fun _ _ => rfl) rfl (by decide) (by decide) ?_
  refine v_dup 23 rfl (by decide) ?_
  refine v_callIN (M' := naX5_init) (a := 6) (st := [.ref 6, .ref 1]) [] 24 rfl lic11_37 rfl (by decide) rfl (by decide) (by decide) ?_
  refine ct6 (fun q => upr_s) (fun g3 hg => ?_)
  show V naX11_init _ 51 [(0, .ref 1)] [.ref 6, .ref 1] 9 SK0 g3 7 148 P
  refine v_putFR (r := 6) 25 rfl fl11_38_10 (by decide) rfl (by decide) rfl rfl rfl ?_
  replace hJ := hJ.ctor (c := 1) (f := 5) hg (by decide) (by decide) rfl (by decide +kernel)
  clear hg
  refine v_aload_n 26 0 rfl rfl rfl ?_
  refine v_new (S' := SK0) 27 rfl nw11_42 (by decide) (by decide) (fun _ _ => rfl) rfl (by decide) (by decide) ?_
  refine v_dup 28 rfl (by decide) ?_
  refine v_callIN (M' := naX7_init) (a := 9) (st := [.ref 9, .ref 1]) [] 29 rfl lic11_44 rfl (by decide) rfl (by decide) (by decide) ?_
  refine ct9 (fun q => upr_s) (fun g4 hg => ?_)
  show V naX11_init _ 62 [(0, .ref 1)] [.ref 9, .ref 1] 10 SK0 g4 8 151 P
  refine v_putFR (r := 9) 30 rfl fl11_45_10 (by decide) rfl (by decide) rfl rfl rfl ?_
  replace hJ := hJ.ctor (c := 1) (f := 6) hg (by decide) (by decide) rfl (by decide +kernel)
  clear hg
  refine v_aload_n 31 0 rfl rfl rfl ?_
  refine v_new (S' := SK0) 32 rfl nw11_42 (by decide) (by decide) (fun _ _ => rfl) rfl (by decide) (by decide) ?_
  refine v_dup 33 rfl (by decide) ?_
  refine v_callIN (M' := naX7_init) (a := 10) (st := [.ref 10, .ref 1]) [] 34 rfl lic11_44 rfl (by decide) rfl (by decide) (by decide) ?_
  refine ct10 (fun q => upr_s) (fun g5 hg => ?_)
  show V naX11_init _ 73 [(0, .ref 1)] [.ref 10, .ref 1] 11 SK0 g5 9 154 P
  refine v_putFR (r := 10) 35 rfl fl11_49_10 (by decide) rfl (by decide) rfl rfl rfl ?_
  replace hJ := hJ.ctor (c := 1) (f := 7) hg (by decide) (by decide) rfl (by decide +kernel)
  clear hg
  refine v_aload_n 36 0 rfl rfl rfl ?_
  refine v_new (S' := SK0) 37 rfl nw11_52 (by decide) (by decide) (fun _ _ => rfl) rfl (by decide) (by decide) ?_
  refine v_dup 38 rfl (by decide) ?_
  refine v_callIN (M' := naX0_init) (a := 11) (st := [.ref 11, .ref 1]) [] 39 rfl lic11_54 rfl (by decide) rfl (by decide) (by decide) ?_
  refine ct11 (fun q => upr_s) (fun g6 hg => ?_)
  show V naX11_init _ 84 [(0, .ref 1)] [.ref 11, .ref 1] 18 SK0 g6 16 1595 P
  refine v_putFR (r := 11) 40 rfl fl11_55_10 (by decide) rfl (by decide) rfl rfl rfl ?_
  replace hJ := hJ.ctor (c := 1) (f := 8) hg (by decide) (by decide) rfl (by decide +kernel)
  clear hg
  refine v_aload_n 41 0 rfl rfl rfl ?_
  refine v_new (S' := SK0) 42 rfl nw11_59 (by decide) (by decide) (fun _ _ => rfl) rfl (by decide) (by decide) ?_
  refine v_dup 43 rfl (by decide) ?_
  refine v_callIN (M' := naX3_init) (a := 18) (st := [.ref 18, .ref 1]) [] 44 rfl lic11_61 rfl (by decide) rfl (by decide) (by decide) ?_
  refine ct18 (fun q => upr_s) (fun g7 hg => ?_)
  show V naX11_init _ 95 [(0, .ref 1)] [.ref 18, .ref 1] 36 SK0 g7 34 8007 P
  refine v_putFR (r := 18) 45 rfl fl11_62_10 (by decide) rfl (by decide) rfl rfl rfl ?_
  replace hJ := hJ.ctor (c := 1) (f := 9) hg (by decide) (by decide) rfl (by decide +kernel)
  clear hg
  refine v_aload_n 46 0 rfl rfl rfl ?_
  refine v_bipush 47 rfl rfl ?_
  refine st_nc (t := 13) (N := 14) (a := 1) (f := 10) (ci := 10) 48 49 rfl rfl rfl (by decide) (fun _ => rfl) (fun _ _ h => h) ac13 (fun _ _ => rfl) (by decide) (by decide) fl11_66_10 (by decide) rfl rfl (by decide) rfl rfl (by decide) (by decide) (fun g8 e1 e2 => ?_)
  replace hJ := hJ.arr (by decide) (by decide) e1 e2 rfl (by decide +kernel) (by decide +kernel)
  clear e1 e2
  refine v_aload_n 50 0 rfl rfl rfl ?_
  refine v_iconst 51 rfl ?_
  refine v_putI 52 rfl fl11_70_10 (by decide) rfl (by decide) rfl rfl (by decide) ?_
  replace hJ := hJ.put (c := 1) (q := 11) (v := 0) (by decide) (cput (o := some 0) rfl (Or.inr rfl))
  refine v_aload_n 53 0 rfl rfl rfl ?_
  refine v_new (S' := SK0) 54 rfl nw11_73 (by decide) (by decide) (fun _ _ => rfl) rfl (by decide) (by decide) ?_
  refine v_dup 55 rfl (by decide) ?_
  refine v_callIN (M' := naX8_init) (a := 37) (st := [.ref 37, .ref 1]) [] 56 rfl lic11_75 rfl (by decide) rfl (by decide) (by decide) ?_
  refine ct37 (fun q => upr_s) (fun g9 hg => ?_)
  show V naX11_init _ 119 [(0, .ref 1)] [.ref 37, .ref 1] 41 SK0 g9 39 8746 P
  refine v_putFR (r := 37) 57 rfl fl11_76_10 (by decide) rfl (by decide) rfl rfl rfl ?_
  replace hJ := hJ.ctor (c := 1) (f := 12) hg (by decide) (by decide) rfl (by decide +kernel)
  clear hg
  refine v_iconst 58 rfl ?_
  refine v_istore_n (L' := [(0, .ref 1), (1, I_ 0)]) 59 [1, 0] rfl rfl (by decide) rfl ?_
  refine v_iload_n 60 1 rfl rfl rfl ?_
  refine v_aload_n 61 0 rfl rfl rfl ?_
  refine v_getRe (r := 2) 62 rfl fl11_11_10 (by decide) rfl (by decide) rfl rfl (hJ.2 1 0 2 (by decide) (by decide) rfl (by decide)) ?_
  refine v_alen (N := 6) (t := 18) 63 rfl (by decide) rfl (by decide) (fun _ => rfl) rfl ?_
  refine v_icmp_ge (tgt := 152) 64 rfl rfl (by decide) (by decide) (fun c => absurd c (by decide)) (fun _ => ?_)
  refine v_aload_n 65 0 rfl rfl rfl ?_
  refine v_getRe (r := 2) 66 rfl fl11_11_10 (by decide) rfl (by decide) rfl rfl (hJ.2 1 0 2 (by decide) (by decide) rfl (by decide)) ?_
  refine v_iload_n 67 1 rfl rfl rfl ?_
  refine v_new (S' := SK0) 68 rfl nw11_9 (by decide) (by decide) (fun _ _ => rfl) rfl (by decide) (by decide) ?_
  refine v_dup 69 rfl (by decide) ?_
  refine v_callIN (M' := naX9_init) (a := 41) (st := [.ref 41, I_ 0, .ref 2]) [] 70 rfl lic11_80 rfl (by decide) rfl (by decide) (by decide) ?_
  refine ct41 (fun q => upr_s) (fun g10 hg => ?_)
  show V naX11_init _ 145 [(0, .ref 1), (1, I_ 0)] [.ref 41, I_ 0, .ref 2] 43 SK0 g10 41 8765 P
  refine v_tast 71 rfl (by decide) rfl rfl (by decide) (by decide) (by decide) rfl (by decide) asgT ?_
  replace hJ := hJ.ctor (c := 2) (f := 0) hg (by decide) (by decide) rfl (by decide +kernel)
  clear hg
  refine v_iinc (L' := [(0, .ref 1), (1, I_ 1)]) 72 1 [1, 0] rfl rfl (by decide) rfl ?_
  refine v_goto (tgt := 124) 73 rfl rfl ?_
  refine v_iload_n 60 1 rfl rfl rfl ?_
  refine v_aload_n 61 0 rfl rfl rfl ?_
  refine v_getRe (r := 2) 62 rfl fl11_11_10 (by decide) rfl (by decide) rfl rfl (hJ.2 1 0 2 (by decide) (by decide) rfl (by decide)) ?_
  refine v_alen (N := 6) (t := 18) 63 rfl (by decide) rfl (by decide) (fun _ => rfl) rfl ?_
  refine v_icmp_ge (tgt := 152) 64 rfl rfl (by decide) (by decide) (fun c => absurd c (by decide)) (fun _ => ?_)
  refine v_aload_n 65 0 rfl rfl rfl ?_
  refine v_getRe (r := 2) 66 rfl fl11_11_10 (by decide) rfl (by decide) rfl rfl (hJ.2 1 0 2 (by decide) (by decide) rfl (by decide)) ?_
  refine v_iload_n 67 1 rfl rfl rfl ?_
  refine v_new (S' := SK0) 68 rfl nw11_9 (by decide) (by decide) (fun _ _ => rfl) rfl (by decide) (by decide) ?_
  refine v_dup 69 rfl (by decide) ?_
  refine v_callIN (M' := naX9_init) (a := 43) (st := [.ref 43, I_ 1, .ref 2]) [] 70 rfl lic11_80 rfl (by decide) rfl (by decide) (by decide) ?_
  refine ct43 (fun q => upr_s) (fun g11 hg => ?_)
  show V naX11_init _ 145 [(0, .ref 1), (1, I_ 1)] [.ref 43, I_ 1, .ref 2] 45 SK0 g11 43 8784 P
  refine v_tast 71 rfl (by decide) rfl rfl (by decide) (by decide) (by decide) rfl (by decide) asgT ?_
  replace hJ := hJ.ctor (c := 2) (f := 1) hg (by decide) (by decide) rfl (by decide +kernel)
  clear hg
  refine v_iinc (L' := [(0, .ref 1), (1, I_ 2)]) 72 1 [1, 0] rfl rfl (by decide) rfl ?_
  refine v_goto (tgt := 124) 73 rfl rfl ?_
  refine v_iload_n 60 1 rfl rfl rfl ?_
  refine v_aload_n 61 0 rfl rfl rfl ?_
  refine v_getRe (r := 2) 62 rfl fl11_11_10 (by decide) rfl (by decide) rfl rfl (hJ.2 1 0 2 (by decide) (by decide) rfl (by decide)) ?_
  refine v_alen (N := 6) (t := 18) 63 rfl (by decide) rfl (by decide) (fun _ => rfl) rfl ?_
  refine v_icmp_ge (tgt := 152) 64 rfl rfl (by decide) (by decide) (fun c => absurd c (by decide)) (fun _ => ?_)
  refine v_aload_n 65 0 rfl rfl rfl ?_
  refine v_getRe (r := 2) 66 rfl fl11_11_10 (by decide) rfl (by decide) rfl rfl (hJ.2 1 0 2 (by decide) (by decide) rfl (by decide)) ?_
  refine v_iload_n 67 1 rfl rfl rfl ?_
  refine v_new (S' := SK0) 68 rfl nw11_9 (by decide) (by decide) (fun _ _ => rfl) rfl (by decide) (by decide) ?_
  refine v_dup 69 rfl (by decide) ?_
  refine v_callIN (M' := naX9_init) (a := 45) (st := [.ref 45, I_ 2, .ref 2]) [] 70 rfl lic11_80 rfl (by decide) rfl (by decide) (by decide) ?_
  refine ct45 (fun q => upr_s) (fun g12 hg => ?_)
  show V naX11_init _ 145 [(0, .ref 1), (1, I_ 2)] [.ref 45, I_ 2, .ref 2] 47 SK0 g12 45 8803 P
  refine v_tast 71 rfl (by decide) rfl rfl (by decide) (by decide) (by decide) rfl (by decide) asgT ?_
  replace hJ := hJ.ctor (c := 2) (f := 2) hg (by decide) (by decide) rfl (by decide +kernel)
  clear hg
  refine v_iinc (L' := [(0, .ref 1), (1, I_ 3)]) 72 1 [1, 0] rfl rfl (by decide) rfl ?_
  refine v_goto (tgt := 124) 73 rfl rfl ?_
  refine v_iload_n 60 1 rfl rfl rfl ?_
  refine v_aload_n 61 0 rfl rfl rfl ?_
  refine v_getRe (r := 2) 62 rfl fl11_11_10 (by decide) rfl (by decide) rfl rfl (hJ.2 1 0 2 (by decide) (by decide) rfl (by decide)) ?_
  refine v_alen (N := 6) (t := 18) 63 rfl (by decide) rfl (by decide) (fun _ => rfl) rfl ?_
  refine v_icmp_ge (tgt := 152) 64 rfl rfl (by decide) (by decide) (fun c => absurd c (by decide)) (fun _ => ?_)
  refine v_aload_n 65 0 rfl rfl rfl ?_
  refine v_getRe (r := 2) 66 rfl fl11_11_10 (by decide) rfl (by decide) rfl rfl (hJ.2 1 0 2 (by decide) (by decide) rfl (by decide)) ?_
  refine v_iload_n 67 1 rfl rfl rfl ?_
  refine v_new (S' := SK0) 68 rfl nw11_9 (by decide) (by decide) (fun _ _ => rfl) rfl (by decide) (by decide) ?_
  refine v_dup 69 rfl (by decide) ?_
  refine v_callIN (M' := naX9_init) (a := 47) (st := [.ref 47, I_ 3, .ref 2]) [] 70 rfl lic11_80 rfl (by decide) rfl (by decide) (by decide) ?_
  refine ct47 (fun q => upr_s) (fun g13 hg => ?_)
  show V naX11_init _ 145 [(0, .ref 1), (1, I_ 3)] [.ref 47, I_ 3, .ref 2] 49 SK0 g13 47 8822 P
  refine v_tast 71 rfl (by decide) rfl rfl (by decide) (by decide) (by decide) rfl (by decide) asgT ?_
  replace hJ := hJ.ctor (c := 2) (f := 3) hg (by decide) (by decide) rfl (by decide +kernel)
  clear hg
  refine v_iinc (L' := [(0, .ref 1), (1, I_ 4)]) 72 1 [1, 0] rfl rfl (by decide) rfl ?_
  refine v_goto (tgt := 124) 73 rfl rfl ?_
  refine v_iload_n 60 1 rfl rfl rfl ?_
  refine v_aload_n 61 0 rfl rfl rfl ?_
  refine v_getRe (r := 2) 62 rfl fl11_11_10 (by decide) rfl (by decide) rfl rfl (hJ.2 1 0 2 (by decide) (by decide) rfl (by decide)) ?_
  refine v_alen (N := 6) (t := 18) 63 rfl (by decide) rfl (by decide) (fun _ => rfl) rfl ?_
  refine v_icmp_ge (tgt := 152) 64 rfl rfl (by decide) (by decide) (fun c => absurd c (by decide)) (fun _ => ?_)
  refine v_aload_n 65 0 rfl rfl rfl ?_
  refine v_getRe (r := 2) 66 rfl fl11_11_10 (by decide) rfl (by decide) rfl rfl (hJ.2 1 0 2 (by decide) (by decide) rfl (by decide)) ?_
  refine v_iload_n 67 1 rfl rfl rfl ?_
  refine v_new (S' := SK0) 68 rfl nw11_9 (by decide) (by decide) (fun _ _ => rfl) rfl (by decide) (by decide) ?_
  refine v_dup 69 rfl (by decide) ?_
  refine v_callIN (M' := naX9_init) (a := 49) (st := [.ref 49, I_ 4, .ref 2]) [] 70 rfl lic11_80 rfl (by decide) rfl (by decide) (by decide) ?_
  refine ct49 (fun q => upr_s) (fun g14 hg => ?_)
  show V naX11_init _ 145 [(0, .ref 1), (1, I_ 4)] [.ref 49, I_ 4, .ref 2] 51 SK0 g14 49 8841 P
  refine v_tast 71 rfl (by decide) rfl rfl (by decide) (by decide) (by decide) rfl (by decide) asgT ?_
  replace hJ := hJ.ctor (c := 2) (f := 4) hg (by decide) (by decide) rfl (by decide +kernel)
  clear hg
  refine v_iinc (L' := [(0, .ref 1), (1, I_ 5)]) 72 1 [1, 0] rfl rfl (by decide) rfl ?_
  refine v_goto (tgt := 124) 73 rfl rfl ?_
  refine v_iload_n 60 1 rfl rfl rfl ?_
  refine v_aload_n 61 0 rfl rfl rfl ?_
  refine v_getRe (r := 2) 62 rfl fl11_11_10 (by decide) rfl (by decide) rfl rfl (hJ.2 1 0 2 (by decide) (by decide) rfl (by decide)) ?_
  refine v_alen (N := 6) (t := 18) 63 rfl (by decide) rfl (by decide) (fun _ => rfl) rfl ?_
  refine v_icmp_ge (tgt := 152) 64 rfl rfl (by decide) (by decide) (fun c => absurd c (by decide)) (fun _ => ?_)
  refine v_aload_n 65 0 rfl rfl rfl ?_
  refine v_getRe (r := 2) 66 rfl fl11_11_10 (by decide) rfl (by decide) rfl rfl (hJ.2 1 0 2 (by decide) (by decide) rfl (by decide)) ?_
  refine v_iload_n 67 1 rfl rfl rfl ?_
  refine v_new (S' := SK0) 68 rfl nw11_9 (by decide) (by decide) (fun _ _ => rfl) rfl (by decide) (by decide) ?_
  refine v_dup 69 rfl (by decide) ?_
  refine v_callIN (M' := naX9_init) (a := 51) (st := [.ref 51, I_ 5, .ref 2]) [] 70 rfl lic11_80 rfl (by decide) rfl (by decide) (by decide) ?_
  refine ct51 (fun q => upr_s) (fun g15 hg => ?_)
  show V naX11_init _ 145 [(0, .ref 1), (1, I_ 5)] [.ref 51, I_ 5, .ref 2] 53 SK0 g15 51 8860 P
  refine v_tast 71 rfl (by decide) rfl rfl (by decide) (by decide) (by decide) rfl (by decide) asgT ?_
  replace hJ := hJ.ctor (c := 2) (f := 5) hg (by decide) (by decide) rfl (by decide +kernel)
  clear hg
  refine v_iinc (L' := [(0, .ref 1), (1, I_ 6)]) 72 1 [1, 0] rfl rfl (by decide) rfl ?_
  refine v_goto (tgt := 124) 73 rfl rfl ?_
  refine v_iload_n 60 1 rfl rfl rfl ?_
  refine v_aload_n 61 0 rfl rfl rfl ?_
  refine v_getRe (r := 2) 62 rfl fl11_11_10 (by decide) rfl (by decide) rfl rfl (hJ.2 1 0 2 (by decide) (by decide) rfl (by decide)) ?_
  refine v_alen (N := 6) (t := 18) 63 rfl (by decide) rfl (by decide) (fun _ => rfl) rfl ?_
  refine v_icmp_ge (tgt := 152) 64 rfl rfl (by decide) (by decide) (fun _ => ?_) (fun c => absurd c (by decide))
  refine v_ret (v := none) 74 rfl (by decide) (by decide) trivial rfl ?_
  exact h _ hJ
