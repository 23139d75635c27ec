/-! CONSTRUCTOR of the reference -/
def naX12_init : MI := (miX12_init.1, miX12_init.2.1, (45, 18212), miX12_init.2.2.2)
set_option maxHeartbeats 4000000 in
set_option maxRecDepth 4000 in
theorem ct53 {d : Nat} {g : Hp} {P : Pst} (hz : ∀ q, g 53 q = 0) (h : ∀ g' : Hp, JJ 53 99 g g' → (∀ t, t < 6 → g' 55 t = -1) → P none 99 SK0 g') : Runs naX12_init (d + 1) [.ref 53] 54 SK0 g P := by
  refine Runs.of rfl rfl deX12_init (Nat.le_of_ble_eq_true rfl) ?_
  show V naX12_init (d + 1) 0 [(0, .ref 53)] [] 54 SK0 g 0 0 P
  have hJ := JJ.zero hz (by decide +kernel : ckz 53 = true)
  refine v_aload_n 0 0 rfl rfl rfl ?_
  refine v_objInit 1 rfl (tbG_in (List.mem_append_right _ (List.mem_of_getElem? (i := 1126) (by decide +kernel))) rfl) (tbG_in (List.mem_append_right _ (List.mem_of_getElem? (i := 28) (by decide +kernel))) rfl) (tbG_in (List.mem_append_right _ (List.mem_of_getElem? (i := 29) (by decide +kernel))) rfl) (by decide) rfl ?_
  refine v_aload_n 2 0 rfl rfl rfl ?_
  refine v_bipush 3 rfl rfl ?_
  refine st_nc (t := 13) (N := 6) (a := 53) (f := 2) (ci := 11) 4 5 rfl rfl rfl (by decide) (fun _ => rfl) (fun _ _ h => h) ac13 (fun _ _ => rfl) (by decide) (by decide) fl12_7_11 (by decide) rfl rfl (by decide) rfl rfl (by decide) (by decide) (fun g0 e1 e2 => ?_)
  replace hJ := hJ.arr (by decide) (by decide) e1 e2 rfl (by decide +kernel) (by decide +kernel)
  clear e1 e2
  refine v_aload_n 6 0 rfl rfl rfl ?_
  refine v_bipush 7 rfl rfl ?_
  refine st_nc (t := 13) (N := 6) (a := 53) (f := 3) (ci := 11) 8 9 rfl rfl rfl (by decide) (fun _ => rfl) (fun _ _ h => h) ac13 (fun _ _ => rfl) (by decide) (by decide) fl12_13_11 (by decide) rfl rfl (by decide) rfl rfl (by decide) (by decide) (fun g1 e1 e2 => ?_)
  replace hJ := hJ.arr (by decide) (by decide) e1 e2 rfl (by decide +kernel) (by decide +kernel)
  clear e1 e2
  refine v_aload_n 10 0 rfl rfl rfl ?_
  refine v_bipush 11 rfl rfl ?_
  refine st_nc (t := 14) (N := 96) (a := 53) (f := 4) (ci := 11) 12 13 rfl rfl rfl (by decide) (fun _ => rfl) (fun _ _ h => h) ac14 (fun _ _ => rfl) (by decide) (by decide) fl12_16_11 (by decide) rfl rfl (by decide) rfl rfl (by decide) (by decide) (fun g2 e1 e2 => ?_)
  replace hJ := hJ.arr (by decide) (by decide) e1 e2 rfl (by decide +kernel) (by decide +kernel)
  clear e1 e2
  refine v_aload_n 14 0 rfl rfl rfl ?_
  refine v_bipush 15 rfl rfl ?_
  refine st_nc (t := 13) (N := 60) (a := 53) (f := 6) (ci := 11) 16 17 rfl rfl rfl (by decide) (fun _ => rfl) (fun _ _ h => h) ac13 (fun _ _ => rfl) (by decide) (by decide) fl12_20_11 (by decide) rfl rfl (by decide) rfl rfl (by decide) (by decide) (fun g3 e1 e2 => ?_)
  replace hJ := hJ.arr (by decide) (by decide) e1 e2 rfl (by decide +kernel) (by decide +kernel)
  clear e1 e2
  refine v_aload_n 18 0 rfl rfl rfl ?_
  refine v_bipush 19 rfl rfl ?_
  refine st_nc (t := 13) (N := 60) (a := 53) (f := 7) (ci := 11) 20 21 rfl rfl rfl (by decide) (fun _ => rfl) (fun _ _ h => h) ac13 (fun _ _ => rfl) (by decide) (by decide) fl12_23_11 (by decide) rfl rfl (by decide) rfl rfl (by decide) (by decide) (fun g4 e1 e2 => ?_)
  replace hJ := hJ.arr (by decide) (by decide) e1 e2 rfl (by decide +kernel) (by decide +kernel)
  clear e1 e2
  refine v_aload_n 22 0 rfl rfl rfl ?_
  refine v_bipush 23 rfl rfl ?_
  refine st_nc (t := 13) (N := 60) (a := 53) (f := 8) (ci := 11) 24 25 rfl rfl rfl (by decide) (fun _ => rfl) (fun _ _ h => h) ac13 (fun _ _ => rfl) (by decide) (by decide) fl12_26_11 (by decide) rfl rfl (by decide) rfl rfl (by decide) (by decide) (fun g5 e1 e2 => ?_)
  replace hJ := hJ.arr (by decide) (by decide) e1 e2 rfl (by decide +kernel) (by decide +kernel)
  clear e1 e2
  refine v_aload_n 26 0 rfl rfl rfl ?_
  refine v_bipush 27 rfl rfl ?_
  refine st_nc (t := 13) (N := 60) (a := 53) (f := 9) (ci := 11) 28 29 rfl rfl rfl (by decide) (fun _ => rfl) (fun _ _ h => h) ac13 (fun _ _ => rfl) (by decide) (by decide) fl12_29_11 (by decide) rfl rfl (by decide) rfl rfl (by decide) (by decide) (fun g6 e1 e2 => ?_)
  replace hJ := hJ.arr (by decide) (by decide) e1 e2 rfl (by decide +kernel) (by decide +kernel)
  clear e1 e2
  refine v_aload_n 30 0 rfl rfl rfl ?_
  refine v_bipush 31 rfl rfl ?_
  refine st_nc (t := 13) (N := 60) (a := 53) (f := 10) (ci := 11) 32 33 rfl rfl rfl (by decide) (fun _ => rfl) (fun _ _ h => h) ac13 (fun _ _ => rfl) (by decide) (by decide) fl12_32_11 (by decide) rfl rfl (by decide) rfl rfl (by decide) (by decide) (fun g7 e1 e2 => ?_)
  replace hJ := hJ.arr (by decide) (by decide) e1 e2 rfl (by decide +kernel) (by decide +kernel)
  clear e1 e2
  refine v_aload_n 34 0 rfl rfl rfl ?_
  refine v_bipush 35 rfl rfl ?_
  refine st_nc (t := 13) (N := 60) (a := 53) (f := 11) (ci := 11) 36 37 rfl rfl rfl (by decide) (fun _ => rfl) (fun _ _ h => h) ac13 (fun _ _ => rfl) (by decide) (by decide) fl12_35_11 (by decide) rfl rfl (by decide) rfl rfl (by decide) (by decide) (fun g8 e1 e2 => ?_)
  replace hJ := hJ.arr (by decide) (by decide) e1 e2 rfl (by decide +kernel) (by decide +kernel)
  clear e1 e2
  refine v_aload_n 38 0 rfl rfl rfl ?_
  refine v_bipush 39 rfl rfl ?_
  refine st_nc (t := 14) (N := 60) (a := 53) (f := 12) (ci := 11) 40 41 rfl rfl rfl (by decide) (fun _ => rfl) (fun _ _ h => h) ac14 (fun _ _ => rfl) (by decide) (by decide) fl12_38_11 (by decide) rfl rfl (by decide) rfl rfl (by decide) (by decide) (fun g9 e1 e2 => ?_)
  replace hJ := hJ.arr (by decide) (by decide) e1 e2 rfl (by decide +kernel) (by decide +kernel)
  clear e1 e2
  refine v_aload_n 42 0 rfl rfl rfl ?_
  refine v_bipush 43 rfl rfl ?_
  refine st_nc (t := 14) (N := 60) (a := 53) (f := 13) (ci := 11) 44 45 rfl rfl rfl (by decide) (fun _ => rfl) (fun _ _ h => h) ac14 (fun _ _ => rfl) (by decide) (by decide) fl12_41_11 (by decide) rfl rfl (by decide) rfl rfl (by decide) (by decide) (fun g10 e1 e2 => ?_)
  replace hJ := hJ.arr (by decide) (by decide) e1 e2 rfl (by decide +kernel) (by decide +kernel)
  clear e1 e2
  refine v_aload_n 46 0 rfl rfl rfl ?_
  refine v_bipush 47 rfl rfl ?_
  refine st_nc (t := 14) (N := 60) (a := 53) (f := 14) (ci := 11) 48 49 rfl rfl rfl (by decide) (fun _ => rfl) (fun _ _ h => h) ac14 (fun _ _ => rfl) (by decide) (by decide) fl12_44_11 (by decide) rfl rfl (by decide) rfl rfl (by decide) (by decide) (fun g11 e1 e2 => ?_)
  replace hJ := hJ.arr (by decide) (by decide) e1 e2 rfl (by decide +kernel) (by decide +kernel)
  clear e1 e2
  refine v_aload_n 50 0 rfl rfl rfl ?_
  refine v_bipush 51 rfl rfl ?_
  refine st_nc (t := 13) (N := 60) (a := 53) (f := 15) (ci := 11) 52 53 rfl rfl rfl (by decide) (fun _ => rfl) (fun _ _ h => h) ac13 (fun _ _ => rfl) (by decide) (by decide) fl12_47_11 (by decide) rfl rfl (by decide) rfl rfl (by decide) (by decide) (fun g12 e1 e2 => ?_)
  replace hJ := hJ.arr (by decide) (by decide) e1 e2 rfl (by decide +kernel) (by decide +kernel)
  clear e1 e2
  refine v_aload_n 54 0 rfl rfl rfl ?_
  refine v_bipush 55 rfl rfl ?_
  refine st_nc (t := 13) (N := 60) (a := 53) (f := 16) (ci := 11) 56 57 rfl rfl rfl (by decide) (fun _ => rfl) (fun _ _ h => h) ac13 (fun _ _ => rfl) (by decide) (by decide) fl12_50_11 (by decide) rfl rfl (by decide) rfl rfl (by decide) (by decide) (fun g13 e1 e2 => ?_)
  replace hJ := hJ.arr (by decide) (by decide) e1 e2 rfl (by decide +kernel) (by decide +kernel)
  clear e1 e2
  refine v_aload_n 58 0 rfl rfl rfl ?_
  refine v_bipush 59 rfl rfl ?_
  refine st_nc (t := 13) (N := 60) (a := 53) (f := 17) (ci := 11) 60 61 rfl rfl rfl (by decide) (fun _ => rfl) (fun _ _ h => h) ac13 (fun _ _ => rfl) (by decide) (by decide) fl12_53_11 (by decide) rfl rfl (by decide) rfl rfl (by decide) (by decide) (fun g14 e1 e2 => ?_)
  replace hJ := hJ.arr (by decide) (by decide) e1 e2 rfl (by decide +kernel) (by decide +kernel)
  clear e1 e2
  refine v_aload_n 62 0 rfl rfl rfl ?_
  refine v_sipush 63 rfl rfl ?_
  refine st_nc (t := 13) (N := 480) (a := 53) (f := 18) (ci := 11) 64 65 rfl rfl rfl (by decide) (fun _ => rfl) (fun _ _ h => h) ac13 (fun _ _ => rfl) (by decide) (by decide) fl12_56_11 (by decide) rfl rfl (by decide) rfl rfl (by decide) (by decide) (fun g15 e1 e2 => ?_)
  replace hJ := hJ.arr (by decide) (by decide) e1 e2 rfl (by decide +kernel) (by decide +kernel)
  clear e1 e2
  refine v_aload_n 66 0 rfl rfl rfl ?_
  refine v_sipush 67 rfl rfl ?_
  refine st_nc (t := 13) (N := 480) (a := 53) (f := 19) (ci := 11) 68 69 rfl rfl rfl (by decide) (fun _ => rfl) (fun _ _ h => h) ac13 (fun _ _ => rfl) (by decide) (by decide) fl12_59_11 (by decide) rfl rfl (by decide) rfl rfl (by decide) (by decide) (fun g16 e1 e2 => ?_)
  replace hJ := hJ.arr (by decide) (by decide) e1 e2 rfl (by decide +kernel) (by decide +kernel)
  clear e1 e2
  refine v_aload_n 70 0 rfl rfl rfl ?_
  refine v_bipush 71 rfl rfl ?_
  refine st_nc (t := 13) (N := 60) (a := 53) (f := 20) (ci := 11) 72 73 rfl rfl rfl (by decide) (fun _ => rfl) (fun _ _ h => h) ac13 (fun _ _ => rfl) (by decide) (by decide) fl12_62_11 (by decide) rfl rfl (by decide) rfl rfl (by decide) (by decide) (fun g17 e1 e2 => ?_)
  replace hJ := hJ.arr (by decide) (by decide) e1 e2 rfl (by decide +kernel) (by decide +kernel)
  clear e1 e2
  refine v_aload_n 74 0 rfl rfl rfl ?_
  refine v_bipush 75 rfl rfl ?_
  refine st_nc (t := 13) (N := 60) (a := 53) (f := 21) (ci := 11) 76 77 rfl rfl rfl (by decide) (fun _ => rfl) (fun _ _ h => h) ac13 (fun _ _ => rfl) (by decide) (by decide) fl12_65_11 (by decide) rfl rfl (by decide) rfl rfl (by decide) (by decide) (fun g18 e1 e2 => ?_)
  replace hJ := hJ.arr (by decide) (by decide) e1 e2 rfl (by decide +kernel) (by decide +kernel)
  clear e1 e2
  refine v_aload_n 78 0 rfl rfl rfl ?_
  refine v_bipush 79 rfl rfl ?_
  refine st_nc (t := 13) (N := 60) (a := 53) (f := 22) (ci := 11) 80 81 rfl rfl rfl (by decide) (fun _ => rfl) (fun _ _ h => h) ac13 (fun _ _ => rfl) (by decide) (by decide) fl12_68_11 (by decide) rfl rfl (by decide) rfl rfl (by decide) (by decide) (fun g19 e1 e2 => ?_)
  replace hJ := hJ.arr (by decide) (by decide) e1 e2 rfl (by decide +kernel) (by decide +kernel)
  clear e1 e2
  refine v_aload_n 82 0 rfl rfl rfl ?_
  refine v_bipush 83 rfl rfl ?_
  refine st_nc (t := 14) (N := 60) (a := 53) (f := 23) (ci := 11) 84 85 rfl rfl rfl (by decide) (fun _ => rfl) (fun _ _ h => h) ac14 (fun _ _ => rfl) (by decide) (by decide) fl12_71_11 (by decide) rfl rfl (by decide) rfl rfl (by decide) (by decide) (fun g20 e1 e2 => ?_)
  replace hJ := hJ.arr (by decide) (by decide) e1 e2 rfl (by decide +kernel) (by decide +kernel)
  clear e1 e2
  refine v_aload_n 86 0 rfl rfl rfl ?_
  refine v_bipush 87 rfl rfl ?_
  refine st_nc (t := 15) (N := 60) (a := 53) (f := 24) (ci := 11) 88 89 rfl rfl rfl (by decide) (fun _ => rfl) (fun _ _ h => h) ac15 (fun _ _ => rfl) (by decide) (by decide) fl12_74_11 (by decide) rfl rfl (by decide) rfl rfl (by decide) (by decide) (fun g21 e1 e2 => ?_)
  replace hJ := hJ.arr (by decide) (by decide) e1 e2 rfl (by decide +kernel) (by decide +kernel)
  clear e1 e2
  refine v_aload_n 90 0 rfl rfl rfl ?_
  refine v_bipush 91 rfl rfl ?_
  refine st_nc (t := 15) (N := 60) (a := 53) (f := 25) (ci := 11) 92 93 rfl rfl rfl (by decide) (fun _ => rfl) (fun _ _ h => h) ac15 (fun _ _ => rfl) (by decide) (by decide) fl12_78_11 (by decide) rfl rfl (by decide) rfl rfl (by decide) (by decide) (fun g22 e1 e2 => ?_)
  replace hJ := hJ.arr (by decide) (by decide) e1 e2 rfl (by decide +kernel) (by decide +kernel)
  clear e1 e2
  refine v_aload_n 94 0 rfl rfl rfl ?_
  refine v_bipush 95 rfl rfl ?_
  refine st_nc (t := 13) (N := 14) (a := 53) (f := 27) (ci := 11) 96 97 rfl rfl rfl (by decide) (fun _ => rfl) (fun _ _ h => h) ac13 (fun _ _ => rfl) (by decide) (by decide) fl12_81_11 (by decide) rfl rfl (by decide) rfl rfl (by decide) (by decide) (fun g23 e1 e2 => ?_)
  replace hJ := hJ.arr (by decide) (by decide) e1 e2 rfl (by decide +kernel) (by decide +kernel)
  clear e1 e2
  refine v_aload_n 98 0 rfl rfl rfl ?_
  refine v_sipush 99 rfl rfl ?_
  refine st_nc (t := 12) (N := 600) (a := 53) (f := 28) (ci := 11) 100 101 rfl rfl rfl (by decide) (fun _ => rfl) (fun _ _ h => h) ac12 (fun _ _ => rfl) (by decide) (by decide) fl12_84_11 (by decide) rfl rfl (by decide) rfl rfl (by decide) (by decide) (fun g24 e1 e2 => ?_)
  replace hJ := hJ.arr (by decide) (by decide) e1 e2 rfl (by decide +kernel) (by decide +kernel)
  clear e1 e2
  refine v_aload_n 102 0 rfl rfl rfl ?_
  refine v_bipush 103 rfl rfl ?_
  refine st_nc (t := 13) (N := 8) (a := 53) (f := 30) (ci := 11) 104 105 rfl rfl rfl (by decide) (fun _ => rfl) (fun _ _ h => h) ac13 (fun _ _ => rfl) (by decide) (by decide) fl12_88_11 (by decide) rfl rfl (by decide) rfl rfl (by decide) (by decide) (fun g25 e1 e2 => ?_)
  replace hJ := hJ.arr (by decide) (by decide) e1 e2 rfl (by decide +kernel) (by decide +kernel)
  clear e1 e2
  refine v_aload_n 106 0 rfl rfl rfl ?_
  refine v_bipush 107 rfl rfl ?_
  refine st_nc (t := 13) (N := 8) (a := 53) (f := 31) (ci := 11) 108 109 rfl rfl rfl (by decide) (fun _ => rfl) (fun _ _ h => h) ac13 (fun _ _ => rfl) (by decide) (by decide) fl12_91_11 (by decide) rfl rfl (by decide) rfl rfl (by decide) (by decide) (fun g26 e1 e2 => ?_)
  replace hJ := hJ.arr (by decide) (by decide) e1 e2 rfl (by decide +kernel) (by decide +kernel)
  clear e1 e2
  refine v_aload_n 110 0 rfl rfl rfl ?_
  refine v_sipush 111 rfl rfl ?_
  refine st_nc (t := 13) (N := 1800) (a := 53) (f := 36) (ci := 11) 112 113 rfl rfl rfl (by decide) (fun _ => rfl) (fun _ _ h => h) ac13 (fun _ _ => rfl) (by decide) (by decide) fl12_94_11 (by decide) rfl rfl (by decide) rfl rfl (by decide) (by decide) (fun g27 e1 e2 => ?_)
  replace hJ := hJ.arr (by decide) (by decide) e1 e2 rfl (by decide +kernel) (by decide +kernel)
  clear e1 e2
  refine v_aload_n 114 0 rfl rfl rfl ?_
  refine v_sipush 115 rfl rfl ?_
  refine st_nc (t := 13) (N := 1800) (a := 53) (f := 37) (ci := 11) 116 117 rfl rfl rfl (by decide) (fun _ => rfl) (fun _ _ h => h) ac13 (fun _ _ => rfl) (by decide) (by decide) fl12_97_11 (by decide) rfl rfl (by decide) rfl rfl (by decide) (by decide) (fun g28 e1 e2 => ?_)
  replace hJ := hJ.arr (by decide) (by decide) e1 e2 rfl (by decide +kernel) (by decide +kernel)
  clear e1 e2
  refine v_aload_n 118 0 rfl rfl rfl ?_
  refine v_bipush 119 rfl rfl ?_
  refine st_nc (t := 13) (N := 60) (a := 53) (f := 38) (ci := 11) 120 121 rfl rfl rfl (by decide) (fun _ => rfl) (fun _ _ h => h) ac13 (fun _ _ => rfl) (by decide) (by decide) fl12_100_11 (by decide) rfl rfl (by decide) rfl rfl (by decide) (by decide) (fun g29 e1 e2 => ?_)
  replace hJ := hJ.arr (by decide) (by decide) e1 e2 rfl (by decide +kernel) (by decide +kernel)
  clear e1 e2
  refine v_aload_n 122 0 rfl rfl rfl ?_
  refine v_bipush 123 rfl rfl ?_
  refine st_nc (t := 13) (N := 60) (a := 53) (f := 39) (ci := 11) 124 125 rfl rfl rfl (by decide) (fun _ => rfl) (fun _ _ h => h) ac13 (fun _ _ => rfl) (by decide) (by decide) fl12_103_11 (by decide) rfl rfl (by decide) rfl rfl (by decide) (by decide) (fun g30 e1 e2 => ?_)
  replace hJ := hJ.arr (by decide) (by decide) e1 e2 rfl (by decide +kernel) (by decide +kernel)
  clear e1 e2
  refine v_aload_n 126 0 rfl rfl rfl ?_
  refine v_bipush 127 rfl rfl ?_
  refine st_nc (t := 13) (N := 60) (a := 53) (f := 40) (ci := 11) 128 129 rfl rfl rfl (by decide) (fun _ => rfl) (fun _ _ h => h) ac13 (fun _ _ => rfl) (by decide) (by decide) fl12_106_11 (by decide) rfl rfl (by decide) rfl rfl (by decide) (by decide) (fun g31 e1 e2 => ?_)
  replace hJ := hJ.arr (by decide) (by decide) e1 e2 rfl (by decide +kernel) (by decide +kernel)
  clear e1 e2
  refine v_aload_n 130 0 rfl rfl rfl ?_
  refine v_bipush 131 rfl rfl ?_
  refine st_nc (t := 14) (N := 60) (a := 53) (f := 43) (ci := 11) 132 133 rfl rfl rfl (by decide) (fun _ => rfl) (fun _ _ h => h) ac14 (fun _ _ => rfl) (by decide) (by decide) fl12_109_11 (by decide) rfl rfl (by decide) rfl rfl (by decide) (by decide) (fun g32 e1 e2 => ?_)
  replace hJ := hJ.arr (by decide) (by decide) e1 e2 rfl (by decide +kernel) (by decide +kernel)
  clear e1 e2
  refine v_aload_n 134 0 rfl rfl rfl ?_
  refine v_bipush 135 rfl rfl ?_
  refine st_nc (t := 14) (N := 60) (a := 53) (f := 44) (ci := 11) 136 137 rfl rfl rfl (by decide) (fun _ => rfl) (fun _ _ h => h) ac14 (fun _ _ => rfl) (by decide) (by decide) fl12_112_11 (by decide) rfl rfl (by decide) rfl rfl (by decide) (by decide) (fun g33 e1 e2 => ?_)
  replace hJ := hJ.arr (by decide) (by decide) e1 e2 rfl (by decide +kernel) (by decide +kernel)
  clear e1 e2
  refine v_aload_n 138 0 rfl rfl rfl ?_
  refine v_bipush 139 rfl rfl ?_
  refine st_nc (t := 14) (N := 8) (a := 53) (f := 45) (ci := 11) 140 141 rfl rfl rfl (by decide) (fun _ => rfl) (fun _ _ h => h) ac14 (fun _ _ => rfl) (by decide) (by decide) fl12_115_11 (by decide) rfl rfl (by decide) rfl rfl (by decide) (by decide) (fun g34 e1 e2 => ?_)
  replace hJ := hJ.arr (by decide) (by decide) e1 e2 rfl (by decide +kernel) (by decide +kernel)
  clear e1 e2
  refine v_aload_n 142 0 rfl rfl rfl ?_
  refine v_bipush 143 rfl rfl ?_
  refine st_nc (t := 14) (N := 10) (a := 53) (f := 46) (ci := 11) 144 145 rfl rfl rfl (by decide) (fun _ => rfl) (fun _ _ h => h) ac14 (fun _ _ => rfl) (by decide) (by decide) fl12_118_11 (by decide) rfl rfl (by decide) rfl rfl (by decide) (by decide) (fun g35 e1 e2 => ?_)
  replace hJ := hJ.arr (by decide) (by decide) e1 e2 rfl (by decide +kernel) (by decide +kernel)
  clear e1 e2
  refine v_aload_n 146 0 rfl rfl rfl ?_
  refine v_sipush 147 rfl rfl ?_
  refine st_nc (t := 13) (N := 200) (a := 53) (f := 47) (ci := 11) 148 149 rfl rfl rfl (by decide) (fun _ => rfl) (fun _ _ h => h) ac13 (fun _ _ => rfl) (by decide) (by decide) fl12_121_11 (by decide) rfl rfl (by decide) rfl rfl (by decide) (by decide) (fun g36 e1 e2 => ?_)
  replace hJ := hJ.arr (by decide) (by decide) e1 e2 rfl (by decide +kernel) (by decide +kernel)
  clear e1 e2
  refine v_aload_n 150 0 rfl rfl rfl ?_
  refine v_sipush 151 rfl rfl ?_
  refine st_nc (t := 13) (N := 200) (a := 53) (f := 48) (ci := 11) 152 153 rfl rfl rfl (by decide) (fun _ => rfl) (fun _ _ h => h) ac13 (fun _ _ => rfl) (by decide) (by decide) fl12_124_11 (by decide) rfl rfl (by decide) rfl rfl (by decide) (by decide) (fun g37 e1 e2 => ?_)
  replace hJ := hJ.arr (by decide) (by decide) e1 e2 rfl (by decide +kernel) (by decide +kernel)
  clear e1 e2
  refine v_aload_n 154 0 rfl rfl rfl ?_
  refine v_bipush 155 rfl rfl ?_
  refine st_nc (t := 14) (N := 8) (a := 53) (f := 49) (ci := 11) 156 157 rfl rfl rfl (by decide) (fun _ => rfl) (fun _ _ h => h) ac14 (fun _ _ => rfl) (by decide) (by decide) fl12_127_11 (by decide) rfl rfl (by decide) rfl rfl (by decide) (by decide) (fun g38 e1 e2 => ?_)
  replace hJ := hJ.arr (by decide) (by decide) e1 e2 rfl (by decide +kernel) (by decide +kernel)
  clear e1 e2
  refine v_aload_n 158 0 rfl rfl rfl ?_
  refine v_bipush 159 rfl rfl ?_
  refine st_nc (t := 14) (N := 8) (a := 53) (f := 50) (ci := 11) 160 161 rfl rfl rfl (by decide) (fun _ => rfl) (fun _ _ h => h) ac14 (fun _ _ => rfl) (by decide) (by decide) fl12_130_11 (by decide) rfl rfl (by decide) rfl rfl (by decide) (by decide) (fun g39 e1 e2 => ?_)
  replace hJ := hJ.arr (by decide) (by decide) e1 e2 rfl (by decide +kernel) (by decide +kernel)
  clear e1 e2
  refine v_aload_n 162 0 rfl rfl rfl ?_
  refine v_sipush 163 rfl rfl ?_
  refine st_nc (t := 13) (N := 9216) (a := 53) (f := 52) (ci := 11) 164 165 rfl rfl rfl (by decide) (fun _ => rfl) (fun _ _ h => h) ac13 (fun _ _ => rfl) (by decide) (by decide) fl12_133_11 (by decide) rfl rfl (by decide) rfl rfl (by decide) (by decide) (fun g40 e1 e2 => ?_)
  replace hJ := hJ.arr (by decide) (by decide) e1 e2 rfl (by decide +kernel) (by decide +kernel)
  clear e1 e2
  refine v_aload_n 166 0 rfl rfl rfl ?_
  refine v_sipush 167 rfl rfl ?_
  refine st_nc (t := 14) (N := 1024) (a := 53) (f := 53) (ci := 11) 168 169 rfl rfl rfl (by decide) (fun _ => rfl) (fun _ _ h => h) ac14 (fun _ _ => rfl) (by decide) (by decide) fl12_136_11 (by decide) rfl rfl (by decide) rfl rfl (by decide) (by decide) (fun g41 e1 e2 => ?_)
  replace hJ := hJ.arr (by decide) (by decide) e1 e2 rfl (by decide +kernel) (by decide +kernel)
  clear e1 e2
  refine v_aload_n 170 0 rfl rfl rfl ?_
  refine v_bipush 171 rfl rfl ?_
  refine st_nc (t := 13) (N := 60) (a := 53) (f := 54) (ci := 11) 172 173 rfl rfl rfl (by decide) (fun _ => rfl) (fun _ _ h => h) ac13 (fun _ _ => rfl) (by decide) (by decide) fl12_139_11 (by decide) rfl rfl (by decide) rfl rfl (by decide) (by decide) (fun g42 e1 e2 => ?_)
  replace hJ := hJ.arr (by decide) (by decide) e1 e2 rfl (by decide +kernel) (by decide +kernel)
  clear e1 e2
  refine v_aload_n 174 0 rfl rfl rfl ?_
  refine v_sipush 175 rfl rfl ?_
  refine st_nc (t := 13) (N := 400) (a := 53) (f := 55) (ci := 11) 176 177 rfl rfl rfl (by decide) (fun _ => rfl) (fun _ _ h => h) ac13 (fun _ _ => rfl) (by decide) (by decide) fl12_142_11 (by decide) rfl rfl (by decide) rfl rfl (by decide) (by decide) (fun g43 e1 e2 => ?_)
  replace hJ := hJ.arr (by decide) (by decide) e1 e2 rfl (by decide +kernel) (by decide +kernel)
  clear e1 e2
  refine v_aload_n 178 0 rfl rfl rfl ?_
  refine v_sipush 179 rfl rfl ?_
  refine st_nc (t := 13) (N := 400) (a := 53) (f := 56) (ci := 11) 180 181 rfl rfl rfl (by decide) (fun _ => rfl) (fun _ _ h => h) ac13 (fun _ _ => rfl) (by decide) (by decide) fl12_145_11 (by decide) rfl rfl (by decide) rfl rfl (by decide) (by decide) (fun g44 e1 e2 => ?_)
  replace hJ := hJ.arr (by decide) (by decide) e1 e2 rfl (by decide +kernel) (by decide +kernel)
  clear e1 e2
  refine v_iconst 182 rfl ?_
  refine v_istore_n (L' := [(0, .ref 53), (1, I_ 0)]) 183 [1, 0] rfl rfl (by decide) rfl ?_
  refine v_iload_n 184 1 rfl rfl rfl ?_
  refine v_bipush 185 rfl rfl ?_
  refine v_icmp_ge (tgt := 396) 186 rfl rfl (by decide) (by decide) (fun c => absurd c (by decide)) (fun _ => ?_)
  refine v_aload_n 187 0 rfl rfl rfl ?_
  refine v_getRe (r := 55) 188 rfl fl12_13_11 (by decide) rfl (by decide) rfl rfl (hJ.2 53 3 55 (by decide) (by decide) rfl (by decide)) ?_
  refine v_iload_n 189 1 rfl rfl rfl ?_
  refine v_iconst 190 rfl ?_
  refine v_iast (N := 6) 191 rfl (by decide) rfl rfl (by decide) (by decide) (by decide) ?_
  replace hJ := hJ.put (c := 55) (q := 0) (v := (-1)) (by decide) (cput (o := none) rfl (Or.inl rfl))
  refine v_iinc (L' := [(0, .ref 53), (1, I_ 1)]) 192 1 [1, 0] rfl rfl (by decide) rfl ?_
  refine v_goto (tgt := 377) 193 rfl rfl ?_
  refine v_iload_n 184 1 rfl rfl rfl ?_
  refine v_bipush 185 rfl rfl ?_
  refine v_icmp_ge (tgt := 396) 186 rfl rfl (by decide) (by decide) (fun c => absurd c (by decide)) (fun _ => ?_)
  refine v_aload_n 187 0 rfl rfl rfl ?_
  refine v_getRe (r := 55) 188 rfl fl12_13_11 (by decide) rfl (by decide) rfl rfl (hJ.2 53 3 55 (by decide) (by decide) rfl (by decide)) ?_
  refine v_iload_n 189 1 rfl rfl rfl ?_
  refine v_iconst 190 rfl ?_
  refine v_iast (N := 6) 191 rfl (by decide) rfl rfl (by decide) (by decide) (by decide) ?_
  replace hJ := hJ.put (c := 55) (q := 1) (v := (-1)) (by decide) (cput (o := none) rfl (Or.inl rfl))
  refine v_iinc (L' := [(0, .ref 53), (1, I_ 2)]) 192 1 [1, 0] rfl rfl (by decide) rfl ?_
  refine v_goto (tgt := 377) 193 rfl rfl ?_
  refine v_iload_n 184 1 rfl rfl rfl ?_
  refine v_bipush 185 rfl rfl ?_
  refine v_icmp_ge (tgt := 396) 186 rfl rfl (by decide) (by decide) (fun c => absurd c (by decide)) (fun _ => ?_)
  refine v_aload_n 187 0 rfl rfl rfl ?_
  refine v_getRe (r := 55) 188 rfl fl12_13_11 (by decide) rfl (by decide) rfl rfl (hJ.2 53 3 55 (by decide) (by decide) rfl (by decide)) ?_
  refine v_iload_n 189 1 rfl rfl rfl ?_
  refine v_iconst 190 rfl ?_
  refine v_iast (N := 6) 191 rfl (by decide) rfl rfl (by decide) (by decide) (by decide) ?_
  replace hJ := hJ.put (c := 55) (q := 2) (v := (-1)) (by decide) (cput (o := none) rfl (Or.inl rfl))
  refine v_iinc (L' := [(0, .ref 53), (1, I_ 3)]) 192 1 [1, 0] rfl rfl (by decide) rfl ?_
  refine v_goto (tgt := 377) 193 rfl rfl ?_
  refine v_iload_n 184 1 rfl rfl rfl ?_
  refine v_bipush 185 rfl rfl ?_
  refine v_icmp_ge (tgt := 396) 186 rfl rfl (by decide) (by decide) (fun c => absurd c (by decide)) (fun _ => ?_)
  refine v_aload_n 187 0 rfl rfl rfl ?_
  refine v_getRe (r := 55) 188 rfl fl12_13_11 (by decide) rfl (by decide) rfl rfl (hJ.2 53 3 55 (by decide) (by decide) rfl (by decide)) ?_
  refine v_iload_n 189 1 rfl rfl rfl ?_
  refine v_iconst 190 rfl ?_
  refine v_iast (N := 6) 191 rfl (by decide) rfl rfl (by decide) (by decide) (by decide) ?_
  replace hJ := hJ.put (c := 55) (q := 3) (v := (-1)) (by decide) (cput (o := none) rfl (Or.inl rfl))
  refine v_iinc (L' := [(0, .ref 53), (1, I_ 4)]) 192 1 [1, 0] rfl rfl (by decide) rfl ?_
  refine v_goto (tgt := 377) 193 rfl rfl ?_
  refine v_iload_n 184 1 rfl rfl rfl ?_
  refine v_bipush 185 rfl rfl ?_
  refine v_icmp_ge (tgt := 396) 186 rfl rfl (by decide) (by decide) (fun c => absurd c (by decide)) (fun _ => ?_)
  refine v_aload_n 187 0 rfl rfl rfl ?_
  refine v_getRe (r := 55) 188 rfl fl12_13_11 (by decide) rfl (by decide) rfl rfl (hJ.2 53 3 55 (by decide) (by decide) rfl (by decide)) ?_
  refine v_iload_n 189 1 rfl rfl rfl ?_
  refine v_iconst 190 rfl ?_
  refine v_iast (N := 6) 191 rfl (by decide) rfl rfl (by decide) (by decide) (by decide) ?_
  replace hJ := hJ.put (c := 55) (q := 4) (v := (-1)) (by decide) (cput (o := none) rfl (Or.inl rfl))
  refine v_iinc (L' := [(0, .ref 53), (1, I_ 5)]) 192 1 [1, 0] rfl rfl (by decide) rfl ?_
  refine v_goto (tgt := 377) 193 rfl rfl ?_
  refine v_iload_n 184 1 rfl rfl rfl ?_
  refine v_bipush 185 rfl rfl ?_
  refine v_icmp_ge (tgt := 396) 186 rfl rfl (by decide) (by decide) (fun c => absurd c (by decide)) (fun _ => ?_)
  refine v_aload_n 187 0 rfl rfl rfl ?_
  refine v_getRe (r := 55) 188 rfl fl12_13_11 (by decide) rfl (by decide) rfl rfl (hJ.2 53 3 55 (by decide) (by decide) rfl (by decide)) ?_
  refine v_iload_n 189 1 rfl rfl rfl ?_
  refine v_iconst 190 rfl ?_
  refine v_iast (N := 6) 191 rfl (by decide) rfl rfl (by decide) (by decide) (by decide) ?_
  replace hJ := hJ.put (c := 55) (q := 5) (v := (-1)) (by decide) (cput (o := none) rfl (Or.inl rfl))
  refine v_iinc (L' := [(0, .ref 53), (1, I_ 6)]) 192 1 [1, 0] rfl rfl (by decide) rfl ?_
  refine v_goto (tgt := 377) 193 rfl rfl ?_
  refine v_iload_n 184 1 rfl rfl rfl ?_
  refine v_bipush 185 rfl rfl ?_
  refine v_icmp_ge (tgt := 396) 186 rfl rfl (by decide) (by decide) (fun _ => ?_) (fun c => absurd c (by decide))
  refine v_ret (v := none) 194 rfl (by decide) (by decide) trivial rfl ?_
  exact h _ hJ (fun t ht => by match t, ht with
    | 0, _ => rfl
    | 1, _ => rfl
    | 2, _ => rfl
    | 3, _ => rfl
    | 4, _ => rfl
    | 5, _ => rfl)
