/-! THE LAW: its rows by name, its calls' links -/
def lawt0 : List (Nat × Instr × Nat) := lawp0 ++ (lawp1 ++ (lawp2 ++ (lawp3 ++ (lawp4 ++ (lawp5 ++ (lawp6 ++ (lawp7 ++ (lawp8 ++ (lawp9 ++ (lawp10 ++ (lawp11 ++ (lawp12 ++ (lawp13 ++ (lawp14 ++ (lawp15 ++ (lawp16 ++ (lawp17 ++ (lawp18 ++ (lawp19)))))))))))))))))))
def lawt1 : List (Nat × Instr × Nat) := lawp1 ++ (lawp2 ++ (lawp3 ++ (lawp4 ++ (lawp5 ++ (lawp6 ++ (lawp7 ++ (lawp8 ++ (lawp9 ++ (lawp10 ++ (lawp11 ++ (lawp12 ++ (lawp13 ++ (lawp14 ++ (lawp15 ++ (lawp16 ++ (lawp17 ++ (lawp18 ++ (lawp19))))))))))))))))))
def lawt2 : List (Nat × Instr × Nat) := lawp2 ++ (lawp3 ++ (lawp4 ++ (lawp5 ++ (lawp6 ++ (lawp7 ++ (lawp8 ++ (lawp9 ++ (lawp10 ++ (lawp11 ++ (lawp12 ++ (lawp13 ++ (lawp14 ++ (lawp15 ++ (lawp16 ++ (lawp17 ++ (lawp18 ++ (lawp19)))))))))))))))))
def lawt3 : List (Nat × Instr × Nat) := lawp3 ++ (lawp4 ++ (lawp5 ++ (lawp6 ++ (lawp7 ++ (lawp8 ++ (lawp9 ++ (lawp10 ++ (lawp11 ++ (lawp12 ++ (lawp13 ++ (lawp14 ++ (lawp15 ++ (lawp16 ++ (lawp17 ++ (lawp18 ++ (lawp19))))))))))))))))
def lawt4 : List (Nat × Instr × Nat) := lawp4 ++ (lawp5 ++ (lawp6 ++ (lawp7 ++ (lawp8 ++ (lawp9 ++ (lawp10 ++ (lawp11 ++ (lawp12 ++ (lawp13 ++ (lawp14 ++ (lawp15 ++ (lawp16 ++ (lawp17 ++ (lawp18 ++ (lawp19)))))))))))))))
def lawt5 : List (Nat × Instr × Nat) := lawp5 ++ (lawp6 ++ (lawp7 ++ (lawp8 ++ (lawp9 ++ (lawp10 ++ (lawp11 ++ (lawp12 ++ (lawp13 ++ (lawp14 ++ (lawp15 ++ (lawp16 ++ (lawp17 ++ (lawp18 ++ (lawp19))))))))))))))
def lawt6 : List (Nat × Instr × Nat) := lawp6 ++ (lawp7 ++ (lawp8 ++ (lawp9 ++ (lawp10 ++ (lawp11 ++ (lawp12 ++ (lawp13 ++ (lawp14 ++ (lawp15 ++ (lawp16 ++ (lawp17 ++ (lawp18 ++ (lawp19)))))))))))))
def lawt7 : List (Nat × Instr × Nat) := lawp7 ++ (lawp8 ++ (lawp9 ++ (lawp10 ++ (lawp11 ++ (lawp12 ++ (lawp13 ++ (lawp14 ++ (lawp15 ++ (lawp16 ++ (lawp17 ++ (lawp18 ++ (lawp19))))))))))))
def lawt8 : List (Nat × Instr × Nat) := lawp8 ++ (lawp9 ++ (lawp10 ++ (lawp11 ++ (lawp12 ++ (lawp13 ++ (lawp14 ++ (lawp15 ++ (lawp16 ++ (lawp17 ++ (lawp18 ++ (lawp19)))))))))))
def lawt9 : List (Nat × Instr × Nat) := lawp9 ++ (lawp10 ++ (lawp11 ++ (lawp12 ++ (lawp13 ++ (lawp14 ++ (lawp15 ++ (lawp16 ++ (lawp17 ++ (lawp18 ++ (lawp19))))))))))
def lawt10 : List (Nat × Instr × Nat) := lawp10 ++ (lawp11 ++ (lawp12 ++ (lawp13 ++ (lawp14 ++ (lawp15 ++ (lawp16 ++ (lawp17 ++ (lawp18 ++ (lawp19)))))))))
def lawt11 : List (Nat × Instr × Nat) := lawp11 ++ (lawp12 ++ (lawp13 ++ (lawp14 ++ (lawp15 ++ (lawp16 ++ (lawp17 ++ (lawp18 ++ (lawp19))))))))
def lawt12 : List (Nat × Instr × Nat) := lawp12 ++ (lawp13 ++ (lawp14 ++ (lawp15 ++ (lawp16 ++ (lawp17 ++ (lawp18 ++ (lawp19)))))))
def lawt13 : List (Nat × Instr × Nat) := lawp13 ++ (lawp14 ++ (lawp15 ++ (lawp16 ++ (lawp17 ++ (lawp18 ++ (lawp19))))))
def lawt14 : List (Nat × Instr × Nat) := lawp14 ++ (lawp15 ++ (lawp16 ++ (lawp17 ++ (lawp18 ++ (lawp19)))))
def lawt15 : List (Nat × Instr × Nat) := lawp15 ++ (lawp16 ++ (lawp17 ++ (lawp18 ++ (lawp19))))
def lawt16 : List (Nat × Instr × Nat) := lawp16 ++ (lawp17 ++ (lawp18 ++ (lawp19)))
def lawt17 : List (Nat × Instr × Nat) := lawp17 ++ (lawp18 ++ (lawp19))
def lawt18 : List (Nat × Instr × Nat) := lawp18 ++ (lawp19)
def lawt19 : List (Nat × Instr × Nat) := lawp19
theorem app_at {α : Type} {l r : List α} {m : Nat} (hl : l.length = m) (t : Nat) : (l ++ r)[m + t]? = r[t]? := by
  rw [List.getElem?_append_right (by omega)]
  congr 1
  omega
theorem app_lt {α : Type} {l r : List α} {m : Nat} (hl : l.length = m) (t : Nat) (ht : t < m) : (l ++ r)[t]? = l[t]? := List.getElem?_append_left (by omega)
theorem ltl_0 (t : Nat) : miL_law.2.2.2[0 + t]? = lawt0[t]? := by rw [Nat.zero_add]; rfl
theorem lg_0 (t : Nat) (ht : t < 50) : miL_law.2.2.2[0 + t]? = lawp0[t]? := (ltl_0 t).trans (app_lt (m := 50) (l := lawp0) (r := lawt1) rfl t ht)
theorem ltl_1 (t : Nat) : miL_law.2.2.2[50 + t]? = lawt1[t]? := by
  have h := ltl_0 (50 + t)
  rw [show 0 + (50 + t) = 50 + t by omega] at h
  exact h.trans (app_at (m := 50) (l := lawp0) (r := lawt1) rfl t)
theorem lg_1 (t : Nat) (ht : t < 50) : miL_law.2.2.2[50 + t]? = lawp1[t]? := (ltl_1 t).trans (app_lt (m := 50) (l := lawp1) (r := lawt2) rfl t ht)
theorem ltl_2 (t : Nat) : miL_law.2.2.2[100 + t]? = lawt2[t]? := by
  have h := ltl_1 (50 + t)
  rw [show 50 + (50 + t) = 100 + t by omega] at h
  exact h.trans (app_at (m := 50) (l := lawp1) (r := lawt2) rfl t)
theorem lg_2 (t : Nat) (ht : t < 50) : miL_law.2.2.2[100 + t]? = lawp2[t]? := (ltl_2 t).trans (app_lt (m := 50) (l := lawp2) (r := lawt3) rfl t ht)
theorem ltl_3 (t : Nat) : miL_law.2.2.2[150 + t]? = lawt3[t]? := by
  have h := ltl_2 (50 + t)
  rw [show 100 + (50 + t) = 150 + t by omega] at h
  exact h.trans (app_at (m := 50) (l := lawp2) (r := lawt3) rfl t)
theorem lg_3 (t : Nat) (ht : t < 50) : miL_law.2.2.2[150 + t]? = lawp3[t]? := (ltl_3 t).trans (app_lt (m := 50) (l := lawp3) (r := lawt4) rfl t ht)
theorem ltl_4 (t : Nat) : miL_law.2.2.2[200 + t]? = lawt4[t]? := by
  have h := ltl_3 (50 + t)
  rw [show 150 + (50 + t) = 200 + t by omega] at h
  exact h.trans (app_at (m := 50) (l := lawp3) (r := lawt4) rfl t)
theorem lg_4 (t : Nat) (ht : t < 50) : miL_law.2.2.2[200 + t]? = lawp4[t]? := (ltl_4 t).trans (app_lt (m := 50) (l := lawp4) (r := lawt5) rfl t ht)
theorem ltl_5 (t : Nat) : miL_law.2.2.2[250 + t]? = lawt5[t]? := by
  have h := ltl_4 (50 + t)
  rw [show 200 + (50 + t) = 250 + t by omega] at h
  exact h.trans (app_at (m := 50) (l := lawp4) (r := lawt5) rfl t)
theorem lg_5 (t : Nat) (ht : t < 50) : miL_law.2.2.2[250 + t]? = lawp5[t]? := (ltl_5 t).trans (app_lt (m := 50) (l := lawp5) (r := lawt6) rfl t ht)
theorem ltl_6 (t : Nat) : miL_law.2.2.2[300 + t]? = lawt6[t]? := by
  have h := ltl_5 (50 + t)
  rw [show 250 + (50 + t) = 300 + t by omega] at h
  exact h.trans (app_at (m := 50) (l := lawp5) (r := lawt6) rfl t)
theorem lg_6 (t : Nat) (ht : t < 50) : miL_law.2.2.2[300 + t]? = lawp6[t]? := (ltl_6 t).trans (app_lt (m := 50) (l := lawp6) (r := lawt7) rfl t ht)
theorem ltl_7 (t : Nat) : miL_law.2.2.2[350 + t]? = lawt7[t]? := by
  have h := ltl_6 (50 + t)
  rw [show 300 + (50 + t) = 350 + t by omega] at h
  exact h.trans (app_at (m := 50) (l := lawp6) (r := lawt7) rfl t)
theorem lg_7 (t : Nat) (ht : t < 50) : miL_law.2.2.2[350 + t]? = lawp7[t]? := (ltl_7 t).trans (app_lt (m := 50) (l := lawp7) (r := lawt8) rfl t ht)
theorem ltl_8 (t : Nat) : miL_law.2.2.2[400 + t]? = lawt8[t]? := by
  have h := ltl_7 (50 + t)
  rw [show 350 + (50 + t) = 400 + t by omega] at h
  exact h.trans (app_at (m := 50) (l := lawp7) (r := lawt8) rfl t)
theorem lg_8 (t : Nat) (ht : t < 50) : miL_law.2.2.2[400 + t]? = lawp8[t]? := (ltl_8 t).trans (app_lt (m := 50) (l := lawp8) (r := lawt9) rfl t ht)
theorem ltl_9 (t : Nat) : miL_law.2.2.2[450 + t]? = lawt9[t]? := by
  have h := ltl_8 (50 + t)
  rw [show 400 + (50 + t) = 450 + t by omega] at h
  exact h.trans (app_at (m := 50) (l := lawp8) (r := lawt9) rfl t)
theorem lg_9 (t : Nat) (ht : t < 50) : miL_law.2.2.2[450 + t]? = lawp9[t]? := (ltl_9 t).trans (app_lt (m := 50) (l := lawp9) (r := lawt10) rfl t ht)
theorem ltl_10 (t : Nat) : miL_law.2.2.2[500 + t]? = lawt10[t]? := by
  have h := ltl_9 (50 + t)
  rw [show 450 + (50 + t) = 500 + t by omega] at h
  exact h.trans (app_at (m := 50) (l := lawp9) (r := lawt10) rfl t)
theorem lg_10 (t : Nat) (ht : t < 50) : miL_law.2.2.2[500 + t]? = lawp10[t]? := (ltl_10 t).trans (app_lt (m := 50) (l := lawp10) (r := lawt11) rfl t ht)
theorem ltl_11 (t : Nat) : miL_law.2.2.2[550 + t]? = lawt11[t]? := by
  have h := ltl_10 (50 + t)
  rw [show 500 + (50 + t) = 550 + t by omega] at h
  exact h.trans (app_at (m := 50) (l := lawp10) (r := lawt11) rfl t)
theorem lg_11 (t : Nat) (ht : t < 50) : miL_law.2.2.2[550 + t]? = lawp11[t]? := (ltl_11 t).trans (app_lt (m := 50) (l := lawp11) (r := lawt12) rfl t ht)
theorem ltl_12 (t : Nat) : miL_law.2.2.2[600 + t]? = lawt12[t]? := by
  have h := ltl_11 (50 + t)
  rw [show 550 + (50 + t) = 600 + t by omega] at h
  exact h.trans (app_at (m := 50) (l := lawp11) (r := lawt12) rfl t)
theorem lg_12 (t : Nat) (ht : t < 50) : miL_law.2.2.2[600 + t]? = lawp12[t]? := (ltl_12 t).trans (app_lt (m := 50) (l := lawp12) (r := lawt13) rfl t ht)
theorem ltl_13 (t : Nat) : miL_law.2.2.2[650 + t]? = lawt13[t]? := by
  have h := ltl_12 (50 + t)
  rw [show 600 + (50 + t) = 650 + t by omega] at h
  exact h.trans (app_at (m := 50) (l := lawp12) (r := lawt13) rfl t)
theorem lg_13 (t : Nat) (ht : t < 50) : miL_law.2.2.2[650 + t]? = lawp13[t]? := (ltl_13 t).trans (app_lt (m := 50) (l := lawp13) (r := lawt14) rfl t ht)
theorem ltl_14 (t : Nat) : miL_law.2.2.2[700 + t]? = lawt14[t]? := by
  have h := ltl_13 (50 + t)
  rw [show 650 + (50 + t) = 700 + t by omega] at h
  exact h.trans (app_at (m := 50) (l := lawp13) (r := lawt14) rfl t)
theorem lg_14 (t : Nat) (ht : t < 50) : miL_law.2.2.2[700 + t]? = lawp14[t]? := (ltl_14 t).trans (app_lt (m := 50) (l := lawp14) (r := lawt15) rfl t ht)
theorem ltl_15 (t : Nat) : miL_law.2.2.2[750 + t]? = lawt15[t]? := by
  have h := ltl_14 (50 + t)
  rw [show 700 + (50 + t) = 750 + t by omega] at h
  exact h.trans (app_at (m := 50) (l := lawp14) (r := lawt15) rfl t)
theorem lg_15 (t : Nat) (ht : t < 50) : miL_law.2.2.2[750 + t]? = lawp15[t]? := (ltl_15 t).trans (app_lt (m := 50) (l := lawp15) (r := lawt16) rfl t ht)
theorem ltl_16 (t : Nat) : miL_law.2.2.2[800 + t]? = lawt16[t]? := by
  have h := ltl_15 (50 + t)
  rw [show 750 + (50 + t) = 800 + t by omega] at h
  exact h.trans (app_at (m := 50) (l := lawp15) (r := lawt16) rfl t)
theorem lg_16 (t : Nat) (ht : t < 50) : miL_law.2.2.2[800 + t]? = lawp16[t]? := (ltl_16 t).trans (app_lt (m := 50) (l := lawp16) (r := lawt17) rfl t ht)
theorem ltl_17 (t : Nat) : miL_law.2.2.2[850 + t]? = lawt17[t]? := by
  have h := ltl_16 (50 + t)
  rw [show 800 + (50 + t) = 850 + t by omega] at h
  exact h.trans (app_at (m := 50) (l := lawp16) (r := lawt17) rfl t)
theorem lg_17 (t : Nat) (ht : t < 50) : miL_law.2.2.2[850 + t]? = lawp17[t]? := (ltl_17 t).trans (app_lt (m := 50) (l := lawp17) (r := lawt18) rfl t ht)
theorem ltl_18 (t : Nat) : miL_law.2.2.2[900 + t]? = lawt18[t]? := by
  have h := ltl_17 (50 + t)
  rw [show 850 + (50 + t) = 900 + t by omega] at h
  exact h.trans (app_at (m := 50) (l := lawp17) (r := lawt18) rfl t)
theorem lg_18 (t : Nat) (ht : t < 50) : miL_law.2.2.2[900 + t]? = lawp18[t]? := (ltl_18 t).trans (app_lt (m := 50) (l := lawp18) (r := lawt19) rfl t ht)
theorem ltl_19 (t : Nat) : miL_law.2.2.2[950 + t]? = lawt19[t]? := by
  have h := ltl_18 (50 + t)
  rw [show 900 + (50 + t) = 950 + t by omega] at h
  exact h.trans (app_at (m := 50) (l := lawp18) (r := lawt19) rfl t)
theorem lg_19 (t : Nat) (ht : t < 50) : miL_law.2.2.2[950 + t]? = lawp19[t]? := ltl_19 t
theorem lr_0 : miL_law.2.2.2[0]? = some (0, .new 8, 3) := (lg_0 0 (by decide)).trans rfl
theorem lr_1 : miL_law.2.2.2[1]? = some (3, .dup, 1) := (lg_0 1 (by decide)).trans rfl
theorem lr_2 : miL_law.2.2.2[2]? = some (4, .invokespecial 15, 3) := (lg_0 2 (by decide)).trans rfl
theorem lr_3 : miL_law.2.2.2[3]? = some (7, .astore_n 1, 1) := (lg_0 3 (by decide)).trans rfl
theorem lr_4 : miL_law.2.2.2[4]? = some (8, .new 16, 3) := (lg_0 4 (by decide)).trans rfl
theorem lr_5 : miL_law.2.2.2[5]? = some (11, .dup, 1) := (lg_0 5 (by decide)).trans rfl
theorem lr_6 : miL_law.2.2.2[6]? = some (12, .invokespecial 18, 3) := (lg_0 6 (by decide)).trans rfl
theorem lr_7 : miL_law.2.2.2[7]? = some (15, .astore_n 2, 1) := (lg_0 7 (by decide)).trans rfl
theorem lr_8 : miL_law.2.2.2[8]? = some (16, .iconst 1, 1) := (lg_0 8 (by decide)).trans rfl
theorem lr_9 : miL_law.2.2.2[9]? = some (17, .newarray .long, 2) := (lg_0 9 (by decide)).trans rfl
theorem lr_10 : miL_law.2.2.2[10]? = some (19, .astore_n 3, 1) := (lg_0 10 (by decide)).trans rfl
theorem lr_11 : miL_law.2.2.2[11]? = some (20, .iconst 0, 1) := (lg_0 11 (by decide)).trans rfl
theorem lr_12 : miL_law.2.2.2[12]? = some (21, .istore 4, 2) := (lg_0 12 (by decide)).trans rfl
theorem lr_13 : miL_law.2.2.2[13]? = some (23, .iload 4, 2) := (lg_0 13 (by decide)).trans rfl
theorem lr_14 : miL_law.2.2.2[14]? = some (25, .aload_n 0, 1) := (lg_0 14 (by decide)).trans rfl
theorem lr_15 : miL_law.2.2.2[15]? = some (26, .arraylength, 1) := (lg_0 15 (by decide)).trans rfl
theorem lr_16 : miL_law.2.2.2[16]? = some (27, .bipush 6, 2) := (lg_0 16 (by decide)).trans rfl
theorem lr_17 : miL_law.2.2.2[17]? = some (29, .isub, 1) := (lg_0 17 (by decide)).trans rfl
theorem lr_18 : miL_law.2.2.2[18]? = some (30, .if_icmp .gt 1495, 3) := (lg_0 18 (by decide)).trans rfl
theorem lr_19 : miL_law.2.2.2[19]? = some (33, .aload_n 0, 1) := (lg_0 19 (by decide)).trans rfl
theorem lr_20 : miL_law.2.2.2[20]? = some (34, .iload 4, 2) := (lg_0 20 (by decide)).trans rfl
theorem lr_21 : miL_law.2.2.2[21]? = some (36, .iaload, 1) := (lg_0 21 (by decide)).trans rfl
theorem lr_22 : miL_law.2.2.2[22]? = some (37, .bipush 63, 2) := (lg_0 22 (by decide)).trans rfl
theorem lr_23 : miL_law.2.2.2[23]? = some (39, .iand, 1) := (lg_0 23 (by decide)).trans rfl
theorem lr_24 : miL_law.2.2.2[24]? = some (40, .tableswitch 1479 0 34 #[156, 169, 218, 299, 337, 410, 435, 472, 537, 574, 611, 649, 687, 748, 773, 810, 859, 884, 910, 935, 960, 998, 1023, 1088, 1113, 1150, 1175, 1200, 1237, 1286, 1323, 1348, 1361, 1398, 1423], 156) := (lg_0 24 (by decide)).trans rfl
theorem lr_25 : miL_law.2.2.2[25]? = some (196, .aload_n 1, 1) := (lg_0 25 (by decide)).trans rfl
theorem lr_26 : miL_law.2.2.2[26]? = some (197, .invokevirtual 19, 3) := (lg_0 26 (by decide)).trans rfl
theorem lr_27 : miL_law.2.2.2[27]? = some (200, .aload_n 2, 1) := (lg_0 27 (by decide)).trans rfl
theorem lr_28 : miL_law.2.2.2[28]? = some (201, .invokevirtual 23, 3) := (lg_0 28 (by decide)).trans rfl
theorem lr_29 : miL_law.2.2.2[29]? = some (204, .if_icmp .eq 1315, 3) := (lg_0 29 (by decide)).trans rfl
theorem lr_30 : miL_law.2.2.2[30]? = some (207, .iconst 0, 1) := (lg_0 30 (by decide)).trans rfl
theorem lr_31 : miL_law.2.2.2[31]? = some (208, .ireturn, 1) := (lg_0 31 (by decide)).trans rfl
theorem lr_32 : miL_law.2.2.2[32]? = some (209, .aload_n 1, 1) := (lg_0 32 (by decide)).trans rfl
theorem lr_33 : miL_law.2.2.2[33]? = some (210, .aload_n 0, 1) := (lg_0 33 (by decide)).trans rfl
theorem lr_34 : miL_law.2.2.2[34]? = some (211, .iload 4, 2) := (lg_0 34 (by decide)).trans rfl
theorem lr_35 : miL_law.2.2.2[35]? = some (213, .iconst 1, 1) := (lg_0 35 (by decide)).trans rfl
theorem lr_36 : miL_law.2.2.2[36]? = some (214, .iadd, 1) := (lg_0 36 (by decide)).trans rfl
theorem lr_37 : miL_law.2.2.2[37]? = some (215, .iaload, 1) := (lg_0 37 (by decide)).trans rfl
theorem lr_38 : miL_law.2.2.2[38]? = some (216, .aload_n 0, 1) := (lg_0 38 (by decide)).trans rfl
theorem lr_39 : miL_law.2.2.2[39]? = some (217, .iload 4, 2) := (lg_0 39 (by decide)).trans rfl
theorem lr_40 : miL_law.2.2.2[40]? = some (219, .iconst 2, 1) := (lg_0 40 (by decide)).trans rfl
theorem lr_41 : miL_law.2.2.2[41]? = some (220, .iadd, 1) := (lg_0 41 (by decide)).trans rfl
theorem lr_42 : miL_law.2.2.2[42]? = some (221, .iaload, 1) := (lg_0 42 (by decide)).trans rfl
theorem lr_43 : miL_law.2.2.2[43]? = some (222, .aload_n 0, 1) := (lg_0 43 (by decide)).trans rfl
theorem lr_44 : miL_law.2.2.2[44]? = some (223, .iload 4, 2) := (lg_0 44 (by decide)).trans rfl
theorem lr_45 : miL_law.2.2.2[45]? = some (225, .iconst 3, 1) := (lg_0 45 (by decide)).trans rfl
theorem lr_46 : miL_law.2.2.2[46]? = some (226, .iadd, 1) := (lg_0 46 (by decide)).trans rfl
theorem lr_47 : miL_law.2.2.2[47]? = some (227, .iaload, 1) := (lg_0 47 (by decide)).trans rfl
theorem lr_48 : miL_law.2.2.2[48]? = some (228, .invokevirtual 24, 3) := (lg_0 48 (by decide)).trans rfl
theorem lr_49 : miL_law.2.2.2[49]? = some (231, .aload_n 2, 1) := (lg_0 49 (by decide)).trans rfl
theorem lr_50 : miL_law.2.2.2[50]? = some (232, .aload_n 0, 1) := (lg_1 0 (by decide)).trans rfl
theorem lr_51 : miL_law.2.2.2[51]? = some (233, .iload 4, 2) := (lg_1 1 (by decide)).trans rfl
theorem lr_52 : miL_law.2.2.2[52]? = some (235, .iconst 1, 1) := (lg_1 2 (by decide)).trans rfl
theorem lr_53 : miL_law.2.2.2[53]? = some (236, .iadd, 1) := (lg_1 3 (by decide)).trans rfl
theorem lr_54 : miL_law.2.2.2[54]? = some (237, .iaload, 1) := (lg_1 4 (by decide)).trans rfl
theorem lr_55 : miL_law.2.2.2[55]? = some (238, .aload_n 0, 1) := (lg_1 5 (by decide)).trans rfl
theorem lr_56 : miL_law.2.2.2[56]? = some (239, .iload 4, 2) := (lg_1 6 (by decide)).trans rfl
theorem lr_57 : miL_law.2.2.2[57]? = some (241, .iconst 2, 1) := (lg_1 7 (by decide)).trans rfl
theorem lr_58 : miL_law.2.2.2[58]? = some (242, .iadd, 1) := (lg_1 8 (by decide)).trans rfl
theorem lr_59 : miL_law.2.2.2[59]? = some (243, .iaload, 1) := (lg_1 9 (by decide)).trans rfl
theorem lr_60 : miL_law.2.2.2[60]? = some (244, .aload_n 0, 1) := (lg_1 10 (by decide)).trans rfl
theorem lr_61 : miL_law.2.2.2[61]? = some (245, .iload 4, 2) := (lg_1 11 (by decide)).trans rfl
theorem lr_62 : miL_law.2.2.2[62]? = some (247, .iconst 3, 1) := (lg_1 12 (by decide)).trans rfl
theorem lr_63 : miL_law.2.2.2[63]? = some (248, .iadd, 1) := (lg_1 13 (by decide)).trans rfl
theorem lr_64 : miL_law.2.2.2[64]? = some (249, .iaload, 1) := (lg_1 14 (by decide)).trans rfl
theorem lr_65 : miL_law.2.2.2[65]? = some (250, .invokevirtual 28, 3) := (lg_1 15 (by decide)).trans rfl
theorem lr_66 : miL_law.2.2.2[66]? = some (253, .if_icmp .eq 1266, 3) := (lg_1 16 (by decide)).trans rfl
theorem lr_67 : miL_law.2.2.2[67]? = some (256, .iconst 0, 1) := (lg_1 17 (by decide)).trans rfl
theorem lr_68 : miL_law.2.2.2[68]? = some (257, .ireturn, 1) := (lg_1 18 (by decide)).trans rfl
theorem lr_69 : miL_law.2.2.2[69]? = some (258, .aload_n 1, 1) := (lg_1 19 (by decide)).trans rfl
theorem lr_70 : miL_law.2.2.2[70]? = some (259, .aload_n 0, 1) := (lg_1 20 (by decide)).trans rfl
theorem lr_71 : miL_law.2.2.2[71]? = some (260, .iload 4, 2) := (lg_1 21 (by decide)).trans rfl
theorem lr_72 : miL_law.2.2.2[72]? = some (262, .iconst 1, 1) := (lg_1 22 (by decide)).trans rfl
theorem lr_73 : miL_law.2.2.2[73]? = some (263, .iadd, 1) := (lg_1 23 (by decide)).trans rfl
theorem lr_74 : miL_law.2.2.2[74]? = some (264, .iaload, 1) := (lg_1 24 (by decide)).trans rfl
theorem lr_75 : miL_law.2.2.2[75]? = some (265, .aload_n 0, 1) := (lg_1 25 (by decide)).trans rfl
theorem lr_76 : miL_law.2.2.2[76]? = some (266, .iload 4, 2) := (lg_1 26 (by decide)).trans rfl
theorem lr_77 : miL_law.2.2.2[77]? = some (268, .iconst 2, 1) := (lg_1 27 (by decide)).trans rfl
theorem lr_78 : miL_law.2.2.2[78]? = some (269, .iadd, 1) := (lg_1 28 (by decide)).trans rfl
theorem lr_79 : miL_law.2.2.2[79]? = some (270, .iaload, 1) := (lg_1 29 (by decide)).trans rfl
theorem lr_80 : miL_law.2.2.2[80]? = some (271, .aload_n 0, 1) := (lg_1 30 (by decide)).trans rfl
theorem lr_81 : miL_law.2.2.2[81]? = some (272, .iload 4, 2) := (lg_1 31 (by decide)).trans rfl
theorem lr_82 : miL_law.2.2.2[82]? = some (274, .iconst 3, 1) := (lg_1 32 (by decide)).trans rfl
theorem lr_83 : miL_law.2.2.2[83]? = some (275, .iadd, 1) := (lg_1 33 (by decide)).trans rfl
theorem lr_84 : miL_law.2.2.2[84]? = some (276, .iaload, 1) := (lg_1 34 (by decide)).trans rfl
theorem lr_85 : miL_law.2.2.2[85]? = some (277, .i2l, 1) := (lg_1 35 (by decide)).trans rfl
theorem lr_86 : miL_law.2.2.2[86]? = some (278, .bipush 32, 2) := (lg_1 36 (by decide)).trans rfl
theorem lr_87 : miL_law.2.2.2[87]? = some (280, .lshl, 1) := (lg_1 37 (by decide)).trans rfl
theorem lr_88 : miL_law.2.2.2[88]? = some (281, .aload_n 0, 1) := (lg_1 38 (by decide)).trans rfl
theorem lr_89 : miL_law.2.2.2[89]? = some (282, .iload 4, 2) := (lg_1 39 (by decide)).trans rfl
theorem lr_90 : miL_law.2.2.2[90]? = some (284, .iconst 4, 1) := (lg_1 40 (by decide)).trans rfl
theorem lr_91 : miL_law.2.2.2[91]? = some (285, .iadd, 1) := (lg_1 41 (by decide)).trans rfl
theorem lr_92 : miL_law.2.2.2[92]? = some (286, .iaload, 1) := (lg_1 42 (by decide)).trans rfl
theorem lr_93 : miL_law.2.2.2[93]? = some (287, .i2l, 1) := (lg_1 43 (by decide)).trans rfl
theorem lr_94 : miL_law.2.2.2[94]? = some (288, .ldc2_w 29, 3) := (lg_1 44 (by decide)).trans rfl
theorem lr_95 : miL_law.2.2.2[95]? = some (291, .land, 1) := (lg_1 45 (by decide)).trans rfl
theorem lr_96 : miL_law.2.2.2[96]? = some (292, .lor, 1) := (lg_1 46 (by decide)).trans rfl
theorem lr_97 : miL_law.2.2.2[97]? = some (293, .invokevirtual 31, 3) := (lg_1 47 (by decide)).trans rfl
theorem lr_98 : miL_law.2.2.2[98]? = some (296, .aload_n 2, 1) := (lg_1 48 (by decide)).trans rfl
theorem lr_99 : miL_law.2.2.2[99]? = some (297, .aload_n 0, 1) := (lg_1 49 (by decide)).trans rfl
theorem lr_100 : miL_law.2.2.2[100]? = some (298, .iload 4, 2) := (lg_2 0 (by decide)).trans rfl
theorem lr_101 : miL_law.2.2.2[101]? = some (300, .iconst 1, 1) := (lg_2 1 (by decide)).trans rfl
theorem lr_102 : miL_law.2.2.2[102]? = some (301, .iadd, 1) := (lg_2 2 (by decide)).trans rfl
theorem lr_103 : miL_law.2.2.2[103]? = some (302, .iaload, 1) := (lg_2 3 (by decide)).trans rfl
theorem lr_104 : miL_law.2.2.2[104]? = some (303, .aload_n 0, 1) := (lg_2 4 (by decide)).trans rfl
theorem lr_105 : miL_law.2.2.2[105]? = some (304, .iload 4, 2) := (lg_2 5 (by decide)).trans rfl
theorem lr_106 : miL_law.2.2.2[106]? = some (306, .iconst 2, 1) := (lg_2 6 (by decide)).trans rfl
theorem lr_107 : miL_law.2.2.2[107]? = some (307, .iadd, 1) := (lg_2 7 (by decide)).trans rfl
theorem lr_108 : miL_law.2.2.2[108]? = some (308, .iaload, 1) := (lg_2 8 (by decide)).trans rfl
theorem lr_109 : miL_law.2.2.2[109]? = some (309, .aload_n 0, 1) := (lg_2 9 (by decide)).trans rfl
theorem lr_110 : miL_law.2.2.2[110]? = some (310, .iload 4, 2) := (lg_2 10 (by decide)).trans rfl
theorem lr_111 : miL_law.2.2.2[111]? = some (312, .iconst 3, 1) := (lg_2 11 (by decide)).trans rfl
theorem lr_112 : miL_law.2.2.2[112]? = some (313, .iadd, 1) := (lg_2 12 (by decide)).trans rfl
theorem lr_113 : miL_law.2.2.2[113]? = some (314, .iaload, 1) := (lg_2 13 (by decide)).trans rfl
theorem lr_114 : miL_law.2.2.2[114]? = some (315, .i2l, 1) := (lg_2 14 (by decide)).trans rfl
theorem lr_115 : miL_law.2.2.2[115]? = some (316, .bipush 32, 2) := (lg_2 15 (by decide)).trans rfl
theorem lr_116 : miL_law.2.2.2[116]? = some (318, .lshl, 1) := (lg_2 16 (by decide)).trans rfl
theorem lr_117 : miL_law.2.2.2[117]? = some (319, .aload_n 0, 1) := (lg_2 17 (by decide)).trans rfl
theorem lr_118 : miL_law.2.2.2[118]? = some (320, .iload 4, 2) := (lg_2 18 (by decide)).trans rfl
theorem lr_119 : miL_law.2.2.2[119]? = some (322, .iconst 4, 1) := (lg_2 19 (by decide)).trans rfl
theorem lr_120 : miL_law.2.2.2[120]? = some (323, .iadd, 1) := (lg_2 20 (by decide)).trans rfl
theorem lr_121 : miL_law.2.2.2[121]? = some (324, .iaload, 1) := (lg_2 21 (by decide)).trans rfl
theorem lr_122 : miL_law.2.2.2[122]? = some (325, .i2l, 1) := (lg_2 22 (by decide)).trans rfl
theorem lr_123 : miL_law.2.2.2[123]? = some (326, .ldc2_w 29, 3) := (lg_2 23 (by decide)).trans rfl
theorem lr_124 : miL_law.2.2.2[124]? = some (329, .land, 1) := (lg_2 24 (by decide)).trans rfl
theorem lr_125 : miL_law.2.2.2[125]? = some (330, .lor, 1) := (lg_2 25 (by decide)).trans rfl
theorem lr_126 : miL_law.2.2.2[126]? = some (331, .invokevirtual 35, 3) := (lg_2 26 (by decide)).trans rfl
theorem lr_127 : miL_law.2.2.2[127]? = some (334, .if_icmp .eq 1185, 3) := (lg_2 27 (by decide)).trans rfl
theorem lr_128 : miL_law.2.2.2[128]? = some (337, .iconst 0, 1) := (lg_2 28 (by decide)).trans rfl
theorem lr_129 : miL_law.2.2.2[129]? = some (338, .ireturn, 1) := (lg_2 29 (by decide)).trans rfl
theorem lr_130 : miL_law.2.2.2[130]? = some (339, .aload_n 1, 1) := (lg_2 30 (by decide)).trans rfl
theorem lr_131 : miL_law.2.2.2[131]? = some (340, .aload_n 0, 1) := (lg_2 31 (by decide)).trans rfl
theorem lr_132 : miL_law.2.2.2[132]? = some (341, .iload 4, 2) := (lg_2 32 (by decide)).trans rfl
theorem lr_133 : miL_law.2.2.2[133]? = some (343, .iconst 1, 1) := (lg_2 33 (by decide)).trans rfl
theorem lr_134 : miL_law.2.2.2[134]? = some (344, .iadd, 1) := (lg_2 34 (by decide)).trans rfl
theorem lr_135 : miL_law.2.2.2[135]? = some (345, .iaload, 1) := (lg_2 35 (by decide)).trans rfl
theorem lr_136 : miL_law.2.2.2[136]? = some (346, .aload_n 0, 1) := (lg_2 36 (by decide)).trans rfl
theorem lr_137 : miL_law.2.2.2[137]? = some (347, .iload 4, 2) := (lg_2 37 (by decide)).trans rfl
theorem lr_138 : miL_law.2.2.2[138]? = some (349, .iconst 2, 1) := (lg_2 38 (by decide)).trans rfl
theorem lr_139 : miL_law.2.2.2[139]? = some (350, .iadd, 1) := (lg_2 39 (by decide)).trans rfl
theorem lr_140 : miL_law.2.2.2[140]? = some (351, .iaload, 1) := (lg_2 40 (by decide)).trans rfl
theorem lr_141 : miL_law.2.2.2[141]? = some (352, .invokevirtual 36, 3) := (lg_2 41 (by decide)).trans rfl
theorem lr_142 : miL_law.2.2.2[142]? = some (355, .aload_n 2, 1) := (lg_2 42 (by decide)).trans rfl
theorem lr_143 : miL_law.2.2.2[143]? = some (356, .aload_n 0, 1) := (lg_2 43 (by decide)).trans rfl
theorem lr_144 : miL_law.2.2.2[144]? = some (357, .iload 4, 2) := (lg_2 44 (by decide)).trans rfl
theorem lr_145 : miL_law.2.2.2[145]? = some (359, .iconst 1, 1) := (lg_2 45 (by decide)).trans rfl
theorem lr_146 : miL_law.2.2.2[146]? = some (360, .iadd, 1) := (lg_2 46 (by decide)).trans rfl
theorem lr_147 : miL_law.2.2.2[147]? = some (361, .iaload, 1) := (lg_2 47 (by decide)).trans rfl
theorem lr_148 : miL_law.2.2.2[148]? = some (362, .aload_n 0, 1) := (lg_2 48 (by decide)).trans rfl
theorem lr_149 : miL_law.2.2.2[149]? = some (363, .iload 4, 2) := (lg_2 49 (by decide)).trans rfl
theorem lr_150 : miL_law.2.2.2[150]? = some (365, .iconst 2, 1) := (lg_3 0 (by decide)).trans rfl
theorem lr_151 : miL_law.2.2.2[151]? = some (366, .iadd, 1) := (lg_3 1 (by decide)).trans rfl
theorem lr_152 : miL_law.2.2.2[152]? = some (367, .iaload, 1) := (lg_3 2 (by decide)).trans rfl
theorem lr_153 : miL_law.2.2.2[153]? = some (368, .invokevirtual 40, 3) := (lg_3 3 (by decide)).trans rfl
theorem lr_154 : miL_law.2.2.2[154]? = some (371, .lcmp, 1) := (lg_3 4 (by decide)).trans rfl
theorem lr_155 : miL_law.2.2.2[155]? = some (372, .ifCond .eq 1147, 3) := (lg_3 5 (by decide)).trans rfl
theorem lr_156 : miL_law.2.2.2[156]? = some (375, .iconst 0, 1) := (lg_3 6 (by decide)).trans rfl
theorem lr_157 : miL_law.2.2.2[157]? = some (376, .ireturn, 1) := (lg_3 7 (by decide)).trans rfl
theorem lr_158 : miL_law.2.2.2[158]? = some (377, .aload_n 1, 1) := (lg_3 8 (by decide)).trans rfl
theorem lr_159 : miL_law.2.2.2[159]? = some (378, .aload_n 0, 1) := (lg_3 9 (by decide)).trans rfl
theorem lr_160 : miL_law.2.2.2[160]? = some (379, .iload 4, 2) := (lg_3 10 (by decide)).trans rfl
theorem lr_161 : miL_law.2.2.2[161]? = some (381, .iconst 1, 1) := (lg_3 11 (by decide)).trans rfl
theorem lr_162 : miL_law.2.2.2[162]? = some (382, .iadd, 1) := (lg_3 12 (by decide)).trans rfl
theorem lr_163 : miL_law.2.2.2[163]? = some (383, .iaload, 1) := (lg_3 13 (by decide)).trans rfl
theorem lr_164 : miL_law.2.2.2[164]? = some (384, .aload_n 0, 1) := (lg_3 14 (by decide)).trans rfl
theorem lr_165 : miL_law.2.2.2[165]? = some (385, .iload 4, 2) := (lg_3 15 (by decide)).trans rfl
theorem lr_166 : miL_law.2.2.2[166]? = some (387, .iconst 2, 1) := (lg_3 16 (by decide)).trans rfl
theorem lr_167 : miL_law.2.2.2[167]? = some (388, .iadd, 1) := (lg_3 17 (by decide)).trans rfl
theorem lr_168 : miL_law.2.2.2[168]? = some (389, .iaload, 1) := (lg_3 18 (by decide)).trans rfl
theorem lr_169 : miL_law.2.2.2[169]? = some (390, .aload_n 0, 1) := (lg_3 19 (by decide)).trans rfl
theorem lr_170 : miL_law.2.2.2[170]? = some (391, .iload 4, 2) := (lg_3 20 (by decide)).trans rfl
theorem lr_171 : miL_law.2.2.2[171]? = some (393, .iconst 3, 1) := (lg_3 21 (by decide)).trans rfl
theorem lr_172 : miL_law.2.2.2[172]? = some (394, .iadd, 1) := (lg_3 22 (by decide)).trans rfl
theorem lr_173 : miL_law.2.2.2[173]? = some (395, .iaload, 1) := (lg_3 23 (by decide)).trans rfl
theorem lr_174 : miL_law.2.2.2[174]? = some (396, .aload_n 0, 1) := (lg_3 24 (by decide)).trans rfl
theorem lr_175 : miL_law.2.2.2[175]? = some (397, .iload 4, 2) := (lg_3 25 (by decide)).trans rfl
theorem lr_176 : miL_law.2.2.2[176]? = some (399, .iconst 4, 1) := (lg_3 26 (by decide)).trans rfl
theorem lr_177 : miL_law.2.2.2[177]? = some (400, .iadd, 1) := (lg_3 27 (by decide)).trans rfl
theorem lr_178 : miL_law.2.2.2[178]? = some (401, .iaload, 1) := (lg_3 28 (by decide)).trans rfl
theorem lr_179 : miL_law.2.2.2[179]? = some (402, .aload_n 0, 1) := (lg_3 29 (by decide)).trans rfl
theorem lr_180 : miL_law.2.2.2[180]? = some (403, .iload 4, 2) := (lg_3 30 (by decide)).trans rfl
theorem lr_181 : miL_law.2.2.2[181]? = some (405, .iconst 5, 1) := (lg_3 31 (by decide)).trans rfl
theorem lr_182 : miL_law.2.2.2[182]? = some (406, .iadd, 1) := (lg_3 32 (by decide)).trans rfl
theorem lr_183 : miL_law.2.2.2[183]? = some (407, .iaload, 1) := (lg_3 33 (by decide)).trans rfl
theorem lr_184 : miL_law.2.2.2[184]? = some (408, .invokevirtual 41, 3) := (lg_3 34 (by decide)).trans rfl
theorem lr_185 : miL_law.2.2.2[185]? = some (411, .aload_n 2, 1) := (lg_3 35 (by decide)).trans rfl
theorem lr_186 : miL_law.2.2.2[186]? = some (412, .aload_n 0, 1) := (lg_3 36 (by decide)).trans rfl
theorem lr_187 : miL_law.2.2.2[187]? = some (413, .iload 4, 2) := (lg_3 37 (by decide)).trans rfl
theorem lr_188 : miL_law.2.2.2[188]? = some (415, .iconst 1, 1) := (lg_3 38 (by decide)).trans rfl
theorem lr_189 : miL_law.2.2.2[189]? = some (416, .iadd, 1) := (lg_3 39 (by decide)).trans rfl
theorem lr_190 : miL_law.2.2.2[190]? = some (417, .iaload, 1) := (lg_3 40 (by decide)).trans rfl
theorem lr_191 : miL_law.2.2.2[191]? = some (418, .aload_n 0, 1) := (lg_3 41 (by decide)).trans rfl
theorem lr_192 : miL_law.2.2.2[192]? = some (419, .iload 4, 2) := (lg_3 42 (by decide)).trans rfl
theorem lr_193 : miL_law.2.2.2[193]? = some (421, .iconst 2, 1) := (lg_3 43 (by decide)).trans rfl
theorem lr_194 : miL_law.2.2.2[194]? = some (422, .iadd, 1) := (lg_3 44 (by decide)).trans rfl
theorem lr_195 : miL_law.2.2.2[195]? = some (423, .iaload, 1) := (lg_3 45 (by decide)).trans rfl
theorem lr_196 : miL_law.2.2.2[196]? = some (424, .aload_n 0, 1) := (lg_3 46 (by decide)).trans rfl
theorem lr_197 : miL_law.2.2.2[197]? = some (425, .iload 4, 2) := (lg_3 47 (by decide)).trans rfl
theorem lr_198 : miL_law.2.2.2[198]? = some (427, .iconst 3, 1) := (lg_3 48 (by decide)).trans rfl
theorem lr_199 : miL_law.2.2.2[199]? = some (428, .iadd, 1) := (lg_3 49 (by decide)).trans rfl
theorem lr_200 : miL_law.2.2.2[200]? = some (429, .iaload, 1) := (lg_4 0 (by decide)).trans rfl
theorem lr_201 : miL_law.2.2.2[201]? = some (430, .aload_n 0, 1) := (lg_4 1 (by decide)).trans rfl
theorem lr_202 : miL_law.2.2.2[202]? = some (431, .iload 4, 2) := (lg_4 2 (by decide)).trans rfl
theorem lr_203 : miL_law.2.2.2[203]? = some (433, .iconst 4, 1) := (lg_4 3 (by decide)).trans rfl
theorem lr_204 : miL_law.2.2.2[204]? = some (434, .iadd, 1) := (lg_4 4 (by decide)).trans rfl
theorem lr_205 : miL_law.2.2.2[205]? = some (435, .iaload, 1) := (lg_4 5 (by decide)).trans rfl
theorem lr_206 : miL_law.2.2.2[206]? = some (436, .aload_n 0, 1) := (lg_4 6 (by decide)).trans rfl
theorem lr_207 : miL_law.2.2.2[207]? = some (437, .iload 4, 2) := (lg_4 7 (by decide)).trans rfl
theorem lr_208 : miL_law.2.2.2[208]? = some (439, .iconst 5, 1) := (lg_4 8 (by decide)).trans rfl
theorem lr_209 : miL_law.2.2.2[209]? = some (440, .iadd, 1) := (lg_4 9 (by decide)).trans rfl
theorem lr_210 : miL_law.2.2.2[210]? = some (441, .iaload, 1) := (lg_4 10 (by decide)).trans rfl
theorem lr_211 : miL_law.2.2.2[211]? = some (442, .invokevirtual 45, 3) := (lg_4 11 (by decide)).trans rfl
theorem lr_212 : miL_law.2.2.2[212]? = some (445, .if_icmp .eq 1074, 3) := (lg_4 12 (by decide)).trans rfl
theorem lr_213 : miL_law.2.2.2[213]? = some (448, .iconst 0, 1) := (lg_4 13 (by decide)).trans rfl
theorem lr_214 : miL_law.2.2.2[214]? = some (449, .ireturn, 1) := (lg_4 14 (by decide)).trans rfl
theorem lr_215 : miL_law.2.2.2[215]? = some (450, .aload_n 1, 1) := (lg_4 15 (by decide)).trans rfl
theorem lr_216 : miL_law.2.2.2[216]? = some (451, .aload_n 0, 1) := (lg_4 16 (by decide)).trans rfl
theorem lr_217 : miL_law.2.2.2[217]? = some (452, .iload 4, 2) := (lg_4 17 (by decide)).trans rfl
theorem lr_218 : miL_law.2.2.2[218]? = some (454, .iconst 1, 1) := (lg_4 18 (by decide)).trans rfl
theorem lr_219 : miL_law.2.2.2[219]? = some (455, .iadd, 1) := (lg_4 19 (by decide)).trans rfl
theorem lr_220 : miL_law.2.2.2[220]? = some (456, .iaload, 1) := (lg_4 20 (by decide)).trans rfl
theorem lr_221 : miL_law.2.2.2[221]? = some (457, .invokevirtual 46, 3) := (lg_4 21 (by decide)).trans rfl
theorem lr_222 : miL_law.2.2.2[222]? = some (460, .aload_n 2, 1) := (lg_4 22 (by decide)).trans rfl
theorem lr_223 : miL_law.2.2.2[223]? = some (461, .aload_n 0, 1) := (lg_4 23 (by decide)).trans rfl
theorem lr_224 : miL_law.2.2.2[224]? = some (462, .iload 4, 2) := (lg_4 24 (by decide)).trans rfl
theorem lr_225 : miL_law.2.2.2[225]? = some (464, .iconst 1, 1) := (lg_4 25 (by decide)).trans rfl
theorem lr_226 : miL_law.2.2.2[226]? = some (465, .iadd, 1) := (lg_4 26 (by decide)).trans rfl
theorem lr_227 : miL_law.2.2.2[227]? = some (466, .iaload, 1) := (lg_4 27 (by decide)).trans rfl
theorem lr_228 : miL_law.2.2.2[228]? = some (467, .invokevirtual 49, 3) := (lg_4 28 (by decide)).trans rfl
theorem lr_229 : miL_law.2.2.2[229]? = some (470, .if_icmp .eq 1049, 3) := (lg_4 29 (by decide)).trans rfl
theorem lr_230 : miL_law.2.2.2[230]? = some (473, .iconst 0, 1) := (lg_4 30 (by decide)).trans rfl
theorem lr_231 : miL_law.2.2.2[231]? = some (474, .ireturn, 1) := (lg_4 31 (by decide)).trans rfl
theorem lr_232 : miL_law.2.2.2[232]? = some (475, .aload_n 1, 1) := (lg_4 32 (by decide)).trans rfl
theorem lr_233 : miL_law.2.2.2[233]? = some (476, .aload_n 0, 1) := (lg_4 33 (by decide)).trans rfl
theorem lr_234 : miL_law.2.2.2[234]? = some (477, .iload 4, 2) := (lg_4 34 (by decide)).trans rfl
theorem lr_235 : miL_law.2.2.2[235]? = some (479, .iconst 1, 1) := (lg_4 35 (by decide)).trans rfl
theorem lr_236 : miL_law.2.2.2[236]? = some (480, .iadd, 1) := (lg_4 36 (by decide)).trans rfl
theorem lr_237 : miL_law.2.2.2[237]? = some (481, .iaload, 1) := (lg_4 37 (by decide)).trans rfl
theorem lr_238 : miL_law.2.2.2[238]? = some (482, .aload_n 0, 1) := (lg_4 38 (by decide)).trans rfl
theorem lr_239 : miL_law.2.2.2[239]? = some (483, .iload 4, 2) := (lg_4 39 (by decide)).trans rfl
theorem lr_240 : miL_law.2.2.2[240]? = some (485, .iconst 2, 1) := (lg_4 40 (by decide)).trans rfl
theorem lr_241 : miL_law.2.2.2[241]? = some (486, .iadd, 1) := (lg_4 41 (by decide)).trans rfl
theorem lr_242 : miL_law.2.2.2[242]? = some (487, .iaload, 1) := (lg_4 42 (by decide)).trans rfl
theorem lr_243 : miL_law.2.2.2[243]? = some (488, .invokevirtual 50, 3) := (lg_4 43 (by decide)).trans rfl
theorem lr_244 : miL_law.2.2.2[244]? = some (491, .aload_n 2, 1) := (lg_4 44 (by decide)).trans rfl
theorem lr_245 : miL_law.2.2.2[245]? = some (492, .aload_n 0, 1) := (lg_4 45 (by decide)).trans rfl
theorem lr_246 : miL_law.2.2.2[246]? = some (493, .iload 4, 2) := (lg_4 46 (by decide)).trans rfl
theorem lr_247 : miL_law.2.2.2[247]? = some (495, .iconst 1, 1) := (lg_4 47 (by decide)).trans rfl
theorem lr_248 : miL_law.2.2.2[248]? = some (496, .iadd, 1) := (lg_4 48 (by decide)).trans rfl
theorem lr_249 : miL_law.2.2.2[249]? = some (497, .iaload, 1) := (lg_4 49 (by decide)).trans rfl
theorem lr_250 : miL_law.2.2.2[250]? = some (498, .aload_n 0, 1) := (lg_5 0 (by decide)).trans rfl
theorem lr_251 : miL_law.2.2.2[251]? = some (499, .iload 4, 2) := (lg_5 1 (by decide)).trans rfl
theorem lr_252 : miL_law.2.2.2[252]? = some (501, .iconst 2, 1) := (lg_5 2 (by decide)).trans rfl
theorem lr_253 : miL_law.2.2.2[253]? = some (502, .iadd, 1) := (lg_5 3 (by decide)).trans rfl
theorem lr_254 : miL_law.2.2.2[254]? = some (503, .iaload, 1) := (lg_5 4 (by decide)).trans rfl
theorem lr_255 : miL_law.2.2.2[255]? = some (504, .invokevirtual 54, 3) := (lg_5 5 (by decide)).trans rfl
theorem lr_256 : miL_law.2.2.2[256]? = some (507, .if_icmp .eq 1012, 3) := (lg_5 6 (by decide)).trans rfl
theorem lr_257 : miL_law.2.2.2[257]? = some (510, .iconst 0, 1) := (lg_5 7 (by decide)).trans rfl
theorem lr_258 : miL_law.2.2.2[258]? = some (511, .ireturn, 1) := (lg_5 8 (by decide)).trans rfl
theorem lr_259 : miL_law.2.2.2[259]? = some (512, .aload_n 1, 1) := (lg_5 9 (by decide)).trans rfl
theorem lr_260 : miL_law.2.2.2[260]? = some (513, .aload_n 0, 1) := (lg_5 10 (by decide)).trans rfl
theorem lr_261 : miL_law.2.2.2[261]? = some (514, .iload 4, 2) := (lg_5 11 (by decide)).trans rfl
theorem lr_262 : miL_law.2.2.2[262]? = some (516, .iconst 1, 1) := (lg_5 12 (by decide)).trans rfl
theorem lr_263 : miL_law.2.2.2[263]? = some (517, .iadd, 1) := (lg_5 13 (by decide)).trans rfl
theorem lr_264 : miL_law.2.2.2[264]? = some (518, .iaload, 1) := (lg_5 14 (by decide)).trans rfl
theorem lr_265 : miL_law.2.2.2[265]? = some (519, .aload_n 0, 1) := (lg_5 15 (by decide)).trans rfl
theorem lr_266 : miL_law.2.2.2[266]? = some (520, .iload 4, 2) := (lg_5 16 (by decide)).trans rfl
theorem lr_267 : miL_law.2.2.2[267]? = some (522, .iconst 2, 1) := (lg_5 17 (by decide)).trans rfl
theorem lr_268 : miL_law.2.2.2[268]? = some (523, .iadd, 1) := (lg_5 18 (by decide)).trans rfl
theorem lr_269 : miL_law.2.2.2[269]? = some (524, .iaload, 1) := (lg_5 19 (by decide)).trans rfl
theorem lr_270 : miL_law.2.2.2[270]? = some (525, .aload_n 0, 1) := (lg_5 20 (by decide)).trans rfl
theorem lr_271 : miL_law.2.2.2[271]? = some (526, .iload 4, 2) := (lg_5 21 (by decide)).trans rfl
theorem lr_272 : miL_law.2.2.2[272]? = some (528, .iconst 3, 1) := (lg_5 22 (by decide)).trans rfl
theorem lr_273 : miL_law.2.2.2[273]? = some (529, .iadd, 1) := (lg_5 23 (by decide)).trans rfl
theorem lr_274 : miL_law.2.2.2[274]? = some (530, .iaload, 1) := (lg_5 24 (by decide)).trans rfl
theorem lr_275 : miL_law.2.2.2[275]? = some (531, .ifCond .eq 7, 3) := (lg_5 25 (by decide)).trans rfl
theorem lr_276 : miL_law.2.2.2[276]? = some (534, .iconst 1, 1) := (lg_5 26 (by decide)).trans rfl
theorem lr_277 : miL_law.2.2.2[277]? = some (535, .goto 4, 3) := (lg_5 27 (by decide)).trans rfl
theorem lr_278 : miL_law.2.2.2[278]? = some (538, .iconst 0, 1) := (lg_5 28 (by decide)).trans rfl
theorem lr_279 : miL_law.2.2.2[279]? = some (539, .invokevirtual 55, 3) := (lg_5 29 (by decide)).trans rfl
theorem lr_280 : miL_law.2.2.2[280]? = some (542, .aload_n 2, 1) := (lg_5 30 (by decide)).trans rfl
theorem lr_281 : miL_law.2.2.2[281]? = some (543, .aload_n 0, 1) := (lg_5 31 (by decide)).trans rfl
theorem lr_282 : miL_law.2.2.2[282]? = some (544, .iload 4, 2) := (lg_5 32 (by decide)).trans rfl
theorem lr_283 : miL_law.2.2.2[283]? = some (546, .iconst 1, 1) := (lg_5 33 (by decide)).trans rfl
theorem lr_284 : miL_law.2.2.2[284]? = some (547, .iadd, 1) := (lg_5 34 (by decide)).trans rfl
theorem lr_285 : miL_law.2.2.2[285]? = some (548, .iaload, 1) := (lg_5 35 (by decide)).trans rfl
theorem lr_286 : miL_law.2.2.2[286]? = some (549, .aload_n 0, 1) := (lg_5 36 (by decide)).trans rfl
theorem lr_287 : miL_law.2.2.2[287]? = some (550, .iload 4, 2) := (lg_5 37 (by decide)).trans rfl
theorem lr_288 : miL_law.2.2.2[288]? = some (552, .iconst 2, 1) := (lg_5 38 (by decide)).trans rfl
theorem lr_289 : miL_law.2.2.2[289]? = some (553, .iadd, 1) := (lg_5 39 (by decide)).trans rfl
theorem lr_290 : miL_law.2.2.2[290]? = some (554, .iaload, 1) := (lg_5 40 (by decide)).trans rfl
theorem lr_291 : miL_law.2.2.2[291]? = some (555, .aload_n 0, 1) := (lg_5 41 (by decide)).trans rfl
theorem lr_292 : miL_law.2.2.2[292]? = some (556, .iload 4, 2) := (lg_5 42 (by decide)).trans rfl
theorem lr_293 : miL_law.2.2.2[293]? = some (558, .iconst 3, 1) := (lg_5 43 (by decide)).trans rfl
theorem lr_294 : miL_law.2.2.2[294]? = some (559, .iadd, 1) := (lg_5 44 (by decide)).trans rfl
theorem lr_295 : miL_law.2.2.2[295]? = some (560, .iaload, 1) := (lg_5 45 (by decide)).trans rfl
theorem lr_296 : miL_law.2.2.2[296]? = some (561, .ifCond .eq 7, 3) := (lg_5 46 (by decide)).trans rfl
theorem lr_297 : miL_law.2.2.2[297]? = some (564, .iconst 1, 1) := (lg_5 47 (by decide)).trans rfl
theorem lr_298 : miL_law.2.2.2[298]? = some (565, .goto 4, 3) := (lg_5 48 (by decide)).trans rfl
theorem lr_299 : miL_law.2.2.2[299]? = some (568, .iconst 0, 1) := (lg_5 49 (by decide)).trans rfl
theorem lr_300 : miL_law.2.2.2[300]? = some (569, .invokevirtual 59, 3) := (lg_6 0 (by decide)).trans rfl
theorem lr_301 : miL_law.2.2.2[301]? = some (572, .if_icmp .eq 947, 3) := (lg_6 1 (by decide)).trans rfl
theorem lr_302 : miL_law.2.2.2[302]? = some (575, .iconst 0, 1) := (lg_6 2 (by decide)).trans rfl
theorem lr_303 : miL_law.2.2.2[303]? = some (576, .ireturn, 1) := (lg_6 3 (by decide)).trans rfl
theorem lr_304 : miL_law.2.2.2[304]? = some (577, .aload_n 1, 1) := (lg_6 4 (by decide)).trans rfl
theorem lr_305 : miL_law.2.2.2[305]? = some (578, .aload_n 0, 1) := (lg_6 5 (by decide)).trans rfl
theorem lr_306 : miL_law.2.2.2[306]? = some (579, .iload 4, 2) := (lg_6 6 (by decide)).trans rfl
theorem lr_307 : miL_law.2.2.2[307]? = some (581, .iconst 1, 1) := (lg_6 7 (by decide)).trans rfl
theorem lr_308 : miL_law.2.2.2[308]? = some (582, .iadd, 1) := (lg_6 8 (by decide)).trans rfl
theorem lr_309 : miL_law.2.2.2[309]? = some (583, .iaload, 1) := (lg_6 9 (by decide)).trans rfl
theorem lr_310 : miL_law.2.2.2[310]? = some (584, .aload_n 0, 1) := (lg_6 10 (by decide)).trans rfl
theorem lr_311 : miL_law.2.2.2[311]? = some (585, .iload 4, 2) := (lg_6 11 (by decide)).trans rfl
theorem lr_312 : miL_law.2.2.2[312]? = some (587, .iconst 2, 1) := (lg_6 12 (by decide)).trans rfl
theorem lr_313 : miL_law.2.2.2[313]? = some (588, .iadd, 1) := (lg_6 13 (by decide)).trans rfl
theorem lr_314 : miL_law.2.2.2[314]? = some (589, .iaload, 1) := (lg_6 14 (by decide)).trans rfl
theorem lr_315 : miL_law.2.2.2[315]? = some (590, .invokevirtual 60, 3) := (lg_6 15 (by decide)).trans rfl
theorem lr_316 : miL_law.2.2.2[316]? = some (593, .aload_n 2, 1) := (lg_6 16 (by decide)).trans rfl
theorem lr_317 : miL_law.2.2.2[317]? = some (594, .aload_n 0, 1) := (lg_6 17 (by decide)).trans rfl
theorem lr_318 : miL_law.2.2.2[318]? = some (595, .iload 4, 2) := (lg_6 18 (by decide)).trans rfl
theorem lr_319 : miL_law.2.2.2[319]? = some (597, .iconst 1, 1) := (lg_6 19 (by decide)).trans rfl
theorem lr_320 : miL_law.2.2.2[320]? = some (598, .iadd, 1) := (lg_6 20 (by decide)).trans rfl
theorem lr_321 : miL_law.2.2.2[321]? = some (599, .iaload, 1) := (lg_6 21 (by decide)).trans rfl
theorem lr_322 : miL_law.2.2.2[322]? = some (600, .aload_n 0, 1) := (lg_6 22 (by decide)).trans rfl
theorem lr_323 : miL_law.2.2.2[323]? = some (601, .iload 4, 2) := (lg_6 23 (by decide)).trans rfl
theorem lr_324 : miL_law.2.2.2[324]? = some (603, .iconst 2, 1) := (lg_6 24 (by decide)).trans rfl
theorem lr_325 : miL_law.2.2.2[325]? = some (604, .iadd, 1) := (lg_6 25 (by decide)).trans rfl
theorem lr_326 : miL_law.2.2.2[326]? = some (605, .iaload, 1) := (lg_6 26 (by decide)).trans rfl
theorem lr_327 : miL_law.2.2.2[327]? = some (606, .invokevirtual 63, 3) := (lg_6 27 (by decide)).trans rfl
theorem lr_328 : miL_law.2.2.2[328]? = some (609, .if_icmp .eq 910, 3) := (lg_6 28 (by decide)).trans rfl
theorem lr_329 : miL_law.2.2.2[329]? = some (612, .iconst 0, 1) := (lg_6 29 (by decide)).trans rfl
theorem lr_330 : miL_law.2.2.2[330]? = some (613, .ireturn, 1) := (lg_6 30 (by decide)).trans rfl
theorem lr_331 : miL_law.2.2.2[331]? = some (614, .aload_n 1, 1) := (lg_6 31 (by decide)).trans rfl
theorem lr_332 : miL_law.2.2.2[332]? = some (615, .aload_n 0, 1) := (lg_6 32 (by decide)).trans rfl
theorem lr_333 : miL_law.2.2.2[333]? = some (616, .iload 4, 2) := (lg_6 33 (by decide)).trans rfl
theorem lr_334 : miL_law.2.2.2[334]? = some (618, .iconst 1, 1) := (lg_6 34 (by decide)).trans rfl
theorem lr_335 : miL_law.2.2.2[335]? = some (619, .iadd, 1) := (lg_6 35 (by decide)).trans rfl
theorem lr_336 : miL_law.2.2.2[336]? = some (620, .iaload, 1) := (lg_6 36 (by decide)).trans rfl
theorem lr_337 : miL_law.2.2.2[337]? = some (621, .aload_n 0, 1) := (lg_6 37 (by decide)).trans rfl
theorem lr_338 : miL_law.2.2.2[338]? = some (622, .iload 4, 2) := (lg_6 38 (by decide)).trans rfl
theorem lr_339 : miL_law.2.2.2[339]? = some (624, .iconst 2, 1) := (lg_6 39 (by decide)).trans rfl
theorem lr_340 : miL_law.2.2.2[340]? = some (625, .iadd, 1) := (lg_6 40 (by decide)).trans rfl
theorem lr_341 : miL_law.2.2.2[341]? = some (626, .iaload, 1) := (lg_6 41 (by decide)).trans rfl
theorem lr_342 : miL_law.2.2.2[342]? = some (627, .invokevirtual 64, 3) := (lg_6 42 (by decide)).trans rfl
theorem lr_343 : miL_law.2.2.2[343]? = some (630, .aload_n 2, 1) := (lg_6 43 (by decide)).trans rfl
theorem lr_344 : miL_law.2.2.2[344]? = some (631, .aload_n 0, 1) := (lg_6 44 (by decide)).trans rfl
theorem lr_345 : miL_law.2.2.2[345]? = some (632, .iload 4, 2) := (lg_6 45 (by decide)).trans rfl
theorem lr_346 : miL_law.2.2.2[346]? = some (634, .iconst 1, 1) := (lg_6 46 (by decide)).trans rfl
theorem lr_347 : miL_law.2.2.2[347]? = some (635, .iadd, 1) := (lg_6 47 (by decide)).trans rfl
theorem lr_348 : miL_law.2.2.2[348]? = some (636, .iaload, 1) := (lg_6 48 (by decide)).trans rfl
theorem lr_349 : miL_law.2.2.2[349]? = some (637, .aload_n 0, 1) := (lg_6 49 (by decide)).trans rfl
theorem lr_350 : miL_law.2.2.2[350]? = some (638, .iload 4, 2) := (lg_7 0 (by decide)).trans rfl
theorem lr_351 : miL_law.2.2.2[351]? = some (640, .iconst 2, 1) := (lg_7 1 (by decide)).trans rfl
theorem lr_352 : miL_law.2.2.2[352]? = some (641, .iadd, 1) := (lg_7 2 (by decide)).trans rfl
theorem lr_353 : miL_law.2.2.2[353]? = some (642, .iaload, 1) := (lg_7 3 (by decide)).trans rfl
theorem lr_354 : miL_law.2.2.2[354]? = some (643, .invokevirtual 67, 3) := (lg_7 4 (by decide)).trans rfl
theorem lr_355 : miL_law.2.2.2[355]? = some (646, .if_icmp .eq 873, 3) := (lg_7 5 (by decide)).trans rfl
theorem lr_356 : miL_law.2.2.2[356]? = some (649, .iconst 0, 1) := (lg_7 6 (by decide)).trans rfl
theorem lr_357 : miL_law.2.2.2[357]? = some (650, .ireturn, 1) := (lg_7 7 (by decide)).trans rfl
theorem lr_358 : miL_law.2.2.2[358]? = some (651, .aload_n 1, 1) := (lg_7 8 (by decide)).trans rfl
theorem lr_359 : miL_law.2.2.2[359]? = some (652, .aload_n 0, 1) := (lg_7 9 (by decide)).trans rfl
theorem lr_360 : miL_law.2.2.2[360]? = some (653, .iload 4, 2) := (lg_7 10 (by decide)).trans rfl
theorem lr_361 : miL_law.2.2.2[361]? = some (655, .iconst 1, 1) := (lg_7 11 (by decide)).trans rfl
theorem lr_362 : miL_law.2.2.2[362]? = some (656, .iadd, 1) := (lg_7 12 (by decide)).trans rfl
theorem lr_363 : miL_law.2.2.2[363]? = some (657, .iaload, 1) := (lg_7 13 (by decide)).trans rfl
theorem lr_364 : miL_law.2.2.2[364]? = some (658, .aload_n 0, 1) := (lg_7 14 (by decide)).trans rfl
theorem lr_365 : miL_law.2.2.2[365]? = some (659, .iload 4, 2) := (lg_7 15 (by decide)).trans rfl
theorem lr_366 : miL_law.2.2.2[366]? = some (661, .iconst 2, 1) := (lg_7 16 (by decide)).trans rfl
theorem lr_367 : miL_law.2.2.2[367]? = some (662, .iadd, 1) := (lg_7 17 (by decide)).trans rfl
theorem lr_368 : miL_law.2.2.2[368]? = some (663, .iaload, 1) := (lg_7 18 (by decide)).trans rfl
theorem lr_369 : miL_law.2.2.2[369]? = some (664, .invokevirtual 68, 3) := (lg_7 19 (by decide)).trans rfl
theorem lr_370 : miL_law.2.2.2[370]? = some (667, .aload_n 2, 1) := (lg_7 20 (by decide)).trans rfl
theorem lr_371 : miL_law.2.2.2[371]? = some (668, .aload_n 0, 1) := (lg_7 21 (by decide)).trans rfl
theorem lr_372 : miL_law.2.2.2[372]? = some (669, .iload 4, 2) := (lg_7 22 (by decide)).trans rfl
theorem lr_373 : miL_law.2.2.2[373]? = some (671, .iconst 1, 1) := (lg_7 23 (by decide)).trans rfl
theorem lr_374 : miL_law.2.2.2[374]? = some (672, .iadd, 1) := (lg_7 24 (by decide)).trans rfl
theorem lr_375 : miL_law.2.2.2[375]? = some (673, .iaload, 1) := (lg_7 25 (by decide)).trans rfl
theorem lr_376 : miL_law.2.2.2[376]? = some (674, .aload_n 0, 1) := (lg_7 26 (by decide)).trans rfl
theorem lr_377 : miL_law.2.2.2[377]? = some (675, .iload 4, 2) := (lg_7 27 (by decide)).trans rfl
theorem lr_378 : miL_law.2.2.2[378]? = some (677, .iconst 2, 1) := (lg_7 28 (by decide)).trans rfl
theorem lr_379 : miL_law.2.2.2[379]? = some (678, .iadd, 1) := (lg_7 29 (by decide)).trans rfl
theorem lr_380 : miL_law.2.2.2[380]? = some (679, .iaload, 1) := (lg_7 30 (by decide)).trans rfl
theorem lr_381 : miL_law.2.2.2[381]? = some (680, .invokevirtual 71, 3) := (lg_7 31 (by decide)).trans rfl
theorem lr_382 : miL_law.2.2.2[382]? = some (683, .lcmp, 1) := (lg_7 32 (by decide)).trans rfl
theorem lr_383 : miL_law.2.2.2[383]? = some (684, .ifCond .eq 835, 3) := (lg_7 33 (by decide)).trans rfl
theorem lr_384 : miL_law.2.2.2[384]? = some (687, .iconst 0, 1) := (lg_7 34 (by decide)).trans rfl
theorem lr_385 : miL_law.2.2.2[385]? = some (688, .ireturn, 1) := (lg_7 35 (by decide)).trans rfl
theorem lr_386 : miL_law.2.2.2[386]? = some (689, .aload_n 1, 1) := (lg_7 36 (by decide)).trans rfl
theorem lr_387 : miL_law.2.2.2[387]? = some (690, .aload_n 0, 1) := (lg_7 37 (by decide)).trans rfl
theorem lr_388 : miL_law.2.2.2[388]? = some (691, .iload 4, 2) := (lg_7 38 (by decide)).trans rfl
theorem lr_389 : miL_law.2.2.2[389]? = some (693, .iconst 1, 1) := (lg_7 39 (by decide)).trans rfl
theorem lr_390 : miL_law.2.2.2[390]? = some (694, .iadd, 1) := (lg_7 40 (by decide)).trans rfl
theorem lr_391 : miL_law.2.2.2[391]? = some (695, .iaload, 1) := (lg_7 41 (by decide)).trans rfl
theorem lr_392 : miL_law.2.2.2[392]? = some (696, .aload_n 0, 1) := (lg_7 42 (by decide)).trans rfl
theorem lr_393 : miL_law.2.2.2[393]? = some (697, .iload 4, 2) := (lg_7 43 (by decide)).trans rfl
theorem lr_394 : miL_law.2.2.2[394]? = some (699, .iconst 2, 1) := (lg_7 44 (by decide)).trans rfl
theorem lr_395 : miL_law.2.2.2[395]? = some (700, .iadd, 1) := (lg_7 45 (by decide)).trans rfl
theorem lr_396 : miL_law.2.2.2[396]? = some (701, .iaload, 1) := (lg_7 46 (by decide)).trans rfl
theorem lr_397 : miL_law.2.2.2[397]? = some (702, .invokevirtual 72, 3) := (lg_7 47 (by decide)).trans rfl
theorem lr_398 : miL_law.2.2.2[398]? = some (705, .aload_n 2, 1) := (lg_7 48 (by decide)).trans rfl
theorem lr_399 : miL_law.2.2.2[399]? = some (706, .aload_n 0, 1) := (lg_7 49 (by decide)).trans rfl
theorem lr_400 : miL_law.2.2.2[400]? = some (707, .iload 4, 2) := (lg_8 0 (by decide)).trans rfl
theorem lr_401 : miL_law.2.2.2[401]? = some (709, .iconst 1, 1) := (lg_8 1 (by decide)).trans rfl
theorem lr_402 : miL_law.2.2.2[402]? = some (710, .iadd, 1) := (lg_8 2 (by decide)).trans rfl
theorem lr_403 : miL_law.2.2.2[403]? = some (711, .iaload, 1) := (lg_8 3 (by decide)).trans rfl
theorem lr_404 : miL_law.2.2.2[404]? = some (712, .aload_n 0, 1) := (lg_8 4 (by decide)).trans rfl
theorem lr_405 : miL_law.2.2.2[405]? = some (713, .iload 4, 2) := (lg_8 5 (by decide)).trans rfl
theorem lr_406 : miL_law.2.2.2[406]? = some (715, .iconst 2, 1) := (lg_8 6 (by decide)).trans rfl
theorem lr_407 : miL_law.2.2.2[407]? = some (716, .iadd, 1) := (lg_8 7 (by decide)).trans rfl
theorem lr_408 : miL_law.2.2.2[408]? = some (717, .iaload, 1) := (lg_8 8 (by decide)).trans rfl
theorem lr_409 : miL_law.2.2.2[409]? = some (718, .invokevirtual 75, 3) := (lg_8 9 (by decide)).trans rfl
theorem lr_410 : miL_law.2.2.2[410]? = some (721, .lcmp, 1) := (lg_8 10 (by decide)).trans rfl
theorem lr_411 : miL_law.2.2.2[411]? = some (722, .ifCond .eq 797, 3) := (lg_8 11 (by decide)).trans rfl
theorem lr_412 : miL_law.2.2.2[412]? = some (725, .iconst 0, 1) := (lg_8 12 (by decide)).trans rfl
theorem lr_413 : miL_law.2.2.2[413]? = some (726, .ireturn, 1) := (lg_8 13 (by decide)).trans rfl
theorem lr_414 : miL_law.2.2.2[414]? = some (727, .aload_n 1, 1) := (lg_8 14 (by decide)).trans rfl
theorem lr_415 : miL_law.2.2.2[415]? = some (728, .aload_n 0, 1) := (lg_8 15 (by decide)).trans rfl
theorem lr_416 : miL_law.2.2.2[416]? = some (729, .iload 4, 2) := (lg_8 16 (by decide)).trans rfl
theorem lr_417 : miL_law.2.2.2[417]? = some (731, .iconst 1, 1) := (lg_8 17 (by decide)).trans rfl
theorem lr_418 : miL_law.2.2.2[418]? = some (732, .iadd, 1) := (lg_8 18 (by decide)).trans rfl
theorem lr_419 : miL_law.2.2.2[419]? = some (733, .iaload, 1) := (lg_8 19 (by decide)).trans rfl
theorem lr_420 : miL_law.2.2.2[420]? = some (734, .aload_n 0, 1) := (lg_8 20 (by decide)).trans rfl
theorem lr_421 : miL_law.2.2.2[421]? = some (735, .iload 4, 2) := (lg_8 21 (by decide)).trans rfl
theorem lr_422 : miL_law.2.2.2[422]? = some (737, .iconst 2, 1) := (lg_8 22 (by decide)).trans rfl
theorem lr_423 : miL_law.2.2.2[423]? = some (738, .iadd, 1) := (lg_8 23 (by decide)).trans rfl
theorem lr_424 : miL_law.2.2.2[424]? = some (739, .iaload, 1) := (lg_8 24 (by decide)).trans rfl
theorem lr_425 : miL_law.2.2.2[425]? = some (740, .aload_n 0, 1) := (lg_8 25 (by decide)).trans rfl
theorem lr_426 : miL_law.2.2.2[426]? = some (741, .iload 4, 2) := (lg_8 26 (by decide)).trans rfl
theorem lr_427 : miL_law.2.2.2[427]? = some (743, .iconst 3, 1) := (lg_8 27 (by decide)).trans rfl
theorem lr_428 : miL_law.2.2.2[428]? = some (744, .iadd, 1) := (lg_8 28 (by decide)).trans rfl
theorem lr_429 : miL_law.2.2.2[429]? = some (745, .iaload, 1) := (lg_8 29 (by decide)).trans rfl
theorem lr_430 : miL_law.2.2.2[430]? = some (746, .aload_n 0, 1) := (lg_8 30 (by decide)).trans rfl
theorem lr_431 : miL_law.2.2.2[431]? = some (747, .iload 4, 2) := (lg_8 31 (by decide)).trans rfl
theorem lr_432 : miL_law.2.2.2[432]? = some (749, .iconst 4, 1) := (lg_8 32 (by decide)).trans rfl
theorem lr_433 : miL_law.2.2.2[433]? = some (750, .iadd, 1) := (lg_8 33 (by decide)).trans rfl
theorem lr_434 : miL_law.2.2.2[434]? = some (751, .iaload, 1) := (lg_8 34 (by decide)).trans rfl
theorem lr_435 : miL_law.2.2.2[435]? = some (752, .invokevirtual 76, 3) := (lg_8 35 (by decide)).trans rfl
theorem lr_436 : miL_law.2.2.2[436]? = some (755, .aload_n 2, 1) := (lg_8 36 (by decide)).trans rfl
theorem lr_437 : miL_law.2.2.2[437]? = some (756, .aload_n 0, 1) := (lg_8 37 (by decide)).trans rfl
theorem lr_438 : miL_law.2.2.2[438]? = some (757, .iload 4, 2) := (lg_8 38 (by decide)).trans rfl
theorem lr_439 : miL_law.2.2.2[439]? = some (759, .iconst 1, 1) := (lg_8 39 (by decide)).trans rfl
theorem lr_440 : miL_law.2.2.2[440]? = some (760, .iadd, 1) := (lg_8 40 (by decide)).trans rfl
theorem lr_441 : miL_law.2.2.2[441]? = some (761, .iaload, 1) := (lg_8 41 (by decide)).trans rfl
theorem lr_442 : miL_law.2.2.2[442]? = some (762, .aload_n 0, 1) := (lg_8 42 (by decide)).trans rfl
theorem lr_443 : miL_law.2.2.2[443]? = some (763, .iload 4, 2) := (lg_8 43 (by decide)).trans rfl
theorem lr_444 : miL_law.2.2.2[444]? = some (765, .iconst 2, 1) := (lg_8 44 (by decide)).trans rfl
theorem lr_445 : miL_law.2.2.2[445]? = some (766, .iadd, 1) := (lg_8 45 (by decide)).trans rfl
theorem lr_446 : miL_law.2.2.2[446]? = some (767, .iaload, 1) := (lg_8 46 (by decide)).trans rfl
theorem lr_447 : miL_law.2.2.2[447]? = some (768, .aload_n 0, 1) := (lg_8 47 (by decide)).trans rfl
theorem lr_448 : miL_law.2.2.2[448]? = some (769, .iload 4, 2) := (lg_8 48 (by decide)).trans rfl
theorem lr_449 : miL_law.2.2.2[449]? = some (771, .iconst 3, 1) := (lg_8 49 (by decide)).trans rfl
theorem lr_450 : miL_law.2.2.2[450]? = some (772, .iadd, 1) := (lg_9 0 (by decide)).trans rfl
theorem lr_451 : miL_law.2.2.2[451]? = some (773, .iaload, 1) := (lg_9 1 (by decide)).trans rfl
theorem lr_452 : miL_law.2.2.2[452]? = some (774, .aload_n 0, 1) := (lg_9 2 (by decide)).trans rfl
theorem lr_453 : miL_law.2.2.2[453]? = some (775, .iload 4, 2) := (lg_9 3 (by decide)).trans rfl
theorem lr_454 : miL_law.2.2.2[454]? = some (777, .iconst 4, 1) := (lg_9 4 (by decide)).trans rfl
theorem lr_455 : miL_law.2.2.2[455]? = some (778, .iadd, 1) := (lg_9 5 (by decide)).trans rfl
theorem lr_456 : miL_law.2.2.2[456]? = some (779, .iaload, 1) := (lg_9 6 (by decide)).trans rfl
theorem lr_457 : miL_law.2.2.2[457]? = some (780, .invokevirtual 80, 3) := (lg_9 7 (by decide)).trans rfl
theorem lr_458 : miL_law.2.2.2[458]? = some (783, .if_icmp .eq 736, 3) := (lg_9 8 (by decide)).trans rfl
theorem lr_459 : miL_law.2.2.2[459]? = some (786, .iconst 0, 1) := (lg_9 9 (by decide)).trans rfl
theorem lr_460 : miL_law.2.2.2[460]? = some (787, .ireturn, 1) := (lg_9 10 (by decide)).trans rfl
theorem lr_461 : miL_law.2.2.2[461]? = some (788, .aload_n 1, 1) := (lg_9 11 (by decide)).trans rfl
theorem lr_462 : miL_law.2.2.2[462]? = some (789, .aload_n 0, 1) := (lg_9 12 (by decide)).trans rfl
theorem lr_463 : miL_law.2.2.2[463]? = some (790, .iload 4, 2) := (lg_9 13 (by decide)).trans rfl
theorem lr_464 : miL_law.2.2.2[464]? = some (792, .iconst 1, 1) := (lg_9 14 (by decide)).trans rfl
theorem lr_465 : miL_law.2.2.2[465]? = some (793, .iadd, 1) := (lg_9 15 (by decide)).trans rfl
theorem lr_466 : miL_law.2.2.2[466]? = some (794, .iaload, 1) := (lg_9 16 (by decide)).trans rfl
theorem lr_467 : miL_law.2.2.2[467]? = some (795, .invokevirtual 81, 3) := (lg_9 17 (by decide)).trans rfl
theorem lr_468 : miL_law.2.2.2[468]? = some (798, .aload_n 2, 1) := (lg_9 18 (by decide)).trans rfl
theorem lr_469 : miL_law.2.2.2[469]? = some (799, .aload_n 0, 1) := (lg_9 19 (by decide)).trans rfl
theorem lr_470 : miL_law.2.2.2[470]? = some (800, .iload 4, 2) := (lg_9 20 (by decide)).trans rfl
theorem lr_471 : miL_law.2.2.2[471]? = some (802, .iconst 1, 1) := (lg_9 21 (by decide)).trans rfl
theorem lr_472 : miL_law.2.2.2[472]? = some (803, .iadd, 1) := (lg_9 22 (by decide)).trans rfl
theorem lr_473 : miL_law.2.2.2[473]? = some (804, .iaload, 1) := (lg_9 23 (by decide)).trans rfl
theorem lr_474 : miL_law.2.2.2[474]? = some (805, .invokevirtual 85, 3) := (lg_9 24 (by decide)).trans rfl
theorem lr_475 : miL_law.2.2.2[475]? = some (808, .if_icmp .eq 711, 3) := (lg_9 25 (by decide)).trans rfl
theorem lr_476 : miL_law.2.2.2[476]? = some (811, .iconst 0, 1) := (lg_9 26 (by decide)).trans rfl
theorem lr_477 : miL_law.2.2.2[477]? = some (812, .ireturn, 1) := (lg_9 27 (by decide)).trans rfl
theorem lr_478 : miL_law.2.2.2[478]? = some (813, .aload_n 1, 1) := (lg_9 28 (by decide)).trans rfl
theorem lr_479 : miL_law.2.2.2[479]? = some (814, .aload_n 0, 1) := (lg_9 29 (by decide)).trans rfl
theorem lr_480 : miL_law.2.2.2[480]? = some (815, .iload 4, 2) := (lg_9 30 (by decide)).trans rfl
theorem lr_481 : miL_law.2.2.2[481]? = some (817, .iconst 1, 1) := (lg_9 31 (by decide)).trans rfl
theorem lr_482 : miL_law.2.2.2[482]? = some (818, .iadd, 1) := (lg_9 32 (by decide)).trans rfl
theorem lr_483 : miL_law.2.2.2[483]? = some (819, .iaload, 1) := (lg_9 33 (by decide)).trans rfl
theorem lr_484 : miL_law.2.2.2[484]? = some (820, .aload_n 0, 1) := (lg_9 34 (by decide)).trans rfl
theorem lr_485 : miL_law.2.2.2[485]? = some (821, .iload 4, 2) := (lg_9 35 (by decide)).trans rfl
theorem lr_486 : miL_law.2.2.2[486]? = some (823, .iconst 2, 1) := (lg_9 36 (by decide)).trans rfl
theorem lr_487 : miL_law.2.2.2[487]? = some (824, .iadd, 1) := (lg_9 37 (by decide)).trans rfl
theorem lr_488 : miL_law.2.2.2[488]? = some (825, .iaload, 1) := (lg_9 38 (by decide)).trans rfl
theorem lr_489 : miL_law.2.2.2[489]? = some (826, .invokevirtual 86, 3) := (lg_9 39 (by decide)).trans rfl
theorem lr_490 : miL_law.2.2.2[490]? = some (829, .aload_n 2, 1) := (lg_9 40 (by decide)).trans rfl
theorem lr_491 : miL_law.2.2.2[491]? = some (830, .aload_n 0, 1) := (lg_9 41 (by decide)).trans rfl
theorem lr_492 : miL_law.2.2.2[492]? = some (831, .iload 4, 2) := (lg_9 42 (by decide)).trans rfl
theorem lr_493 : miL_law.2.2.2[493]? = some (833, .iconst 1, 1) := (lg_9 43 (by decide)).trans rfl
theorem lr_494 : miL_law.2.2.2[494]? = some (834, .iadd, 1) := (lg_9 44 (by decide)).trans rfl
theorem lr_495 : miL_law.2.2.2[495]? = some (835, .iaload, 1) := (lg_9 45 (by decide)).trans rfl
theorem lr_496 : miL_law.2.2.2[496]? = some (836, .aload_n 0, 1) := (lg_9 46 (by decide)).trans rfl
theorem lr_497 : miL_law.2.2.2[497]? = some (837, .iload 4, 2) := (lg_9 47 (by decide)).trans rfl
theorem lr_498 : miL_law.2.2.2[498]? = some (839, .iconst 2, 1) := (lg_9 48 (by decide)).trans rfl
theorem lr_499 : miL_law.2.2.2[499]? = some (840, .iadd, 1) := (lg_9 49 (by decide)).trans rfl
theorem lr_500 : miL_law.2.2.2[500]? = some (841, .iaload, 1) := (lg_10 0 (by decide)).trans rfl
theorem lr_501 : miL_law.2.2.2[501]? = some (842, .invokevirtual 90, 3) := (lg_10 1 (by decide)).trans rfl
theorem lr_502 : miL_law.2.2.2[502]? = some (845, .if_icmp .eq 674, 3) := (lg_10 2 (by decide)).trans rfl
theorem lr_503 : miL_law.2.2.2[503]? = some (848, .iconst 0, 1) := (lg_10 3 (by decide)).trans rfl
theorem lr_504 : miL_law.2.2.2[504]? = some (849, .ireturn, 1) := (lg_10 4 (by decide)).trans rfl
theorem lr_505 : miL_law.2.2.2[505]? = some (850, .aload_n 1, 1) := (lg_10 5 (by decide)).trans rfl
theorem lr_506 : miL_law.2.2.2[506]? = some (851, .aload_n 0, 1) := (lg_10 6 (by decide)).trans rfl
theorem lr_507 : miL_law.2.2.2[507]? = some (852, .iload 4, 2) := (lg_10 7 (by decide)).trans rfl
theorem lr_508 : miL_law.2.2.2[508]? = some (854, .iconst 1, 1) := (lg_10 8 (by decide)).trans rfl
theorem lr_509 : miL_law.2.2.2[509]? = some (855, .iadd, 1) := (lg_10 9 (by decide)).trans rfl
theorem lr_510 : miL_law.2.2.2[510]? = some (856, .iaload, 1) := (lg_10 10 (by decide)).trans rfl
theorem lr_511 : miL_law.2.2.2[511]? = some (857, .aload_n 0, 1) := (lg_10 11 (by decide)).trans rfl
theorem lr_512 : miL_law.2.2.2[512]? = some (858, .iload 4, 2) := (lg_10 12 (by decide)).trans rfl
theorem lr_513 : miL_law.2.2.2[513]? = some (860, .iconst 2, 1) := (lg_10 13 (by decide)).trans rfl
theorem lr_514 : miL_law.2.2.2[514]? = some (861, .iadd, 1) := (lg_10 14 (by decide)).trans rfl
theorem lr_515 : miL_law.2.2.2[515]? = some (862, .iaload, 1) := (lg_10 15 (by decide)).trans rfl
theorem lr_516 : miL_law.2.2.2[516]? = some (863, .aload_n 0, 1) := (lg_10 16 (by decide)).trans rfl
theorem lr_517 : miL_law.2.2.2[517]? = some (864, .iload 4, 2) := (lg_10 17 (by decide)).trans rfl
theorem lr_518 : miL_law.2.2.2[518]? = some (866, .iconst 3, 1) := (lg_10 18 (by decide)).trans rfl
theorem lr_519 : miL_law.2.2.2[519]? = some (867, .iadd, 1) := (lg_10 19 (by decide)).trans rfl
theorem lr_520 : miL_law.2.2.2[520]? = some (868, .iaload, 1) := (lg_10 20 (by decide)).trans rfl
theorem lr_521 : miL_law.2.2.2[521]? = some (869, .invokevirtual 91, 3) := (lg_10 21 (by decide)).trans rfl
theorem lr_522 : miL_law.2.2.2[522]? = some (872, .aload_n 2, 1) := (lg_10 22 (by decide)).trans rfl
theorem lr_523 : miL_law.2.2.2[523]? = some (873, .aload_n 0, 1) := (lg_10 23 (by decide)).trans rfl
theorem lr_524 : miL_law.2.2.2[524]? = some (874, .iload 4, 2) := (lg_10 24 (by decide)).trans rfl
theorem lr_525 : miL_law.2.2.2[525]? = some (876, .iconst 1, 1) := (lg_10 25 (by decide)).trans rfl
theorem lr_526 : miL_law.2.2.2[526]? = some (877, .iadd, 1) := (lg_10 26 (by decide)).trans rfl
theorem lr_527 : miL_law.2.2.2[527]? = some (878, .iaload, 1) := (lg_10 27 (by decide)).trans rfl
theorem lr_528 : miL_law.2.2.2[528]? = some (879, .aload_n 0, 1) := (lg_10 28 (by decide)).trans rfl
theorem lr_529 : miL_law.2.2.2[529]? = some (880, .iload 4, 2) := (lg_10 29 (by decide)).trans rfl
theorem lr_530 : miL_law.2.2.2[530]? = some (882, .iconst 2, 1) := (lg_10 30 (by decide)).trans rfl
theorem lr_531 : miL_law.2.2.2[531]? = some (883, .iadd, 1) := (lg_10 31 (by decide)).trans rfl
theorem lr_532 : miL_law.2.2.2[532]? = some (884, .iaload, 1) := (lg_10 32 (by decide)).trans rfl
theorem lr_533 : miL_law.2.2.2[533]? = some (885, .aload_n 0, 1) := (lg_10 33 (by decide)).trans rfl
theorem lr_534 : miL_law.2.2.2[534]? = some (886, .iload 4, 2) := (lg_10 34 (by decide)).trans rfl
theorem lr_535 : miL_law.2.2.2[535]? = some (888, .iconst 3, 1) := (lg_10 35 (by decide)).trans rfl
theorem lr_536 : miL_law.2.2.2[536]? = some (889, .iadd, 1) := (lg_10 36 (by decide)).trans rfl
theorem lr_537 : miL_law.2.2.2[537]? = some (890, .iaload, 1) := (lg_10 37 (by decide)).trans rfl
theorem lr_538 : miL_law.2.2.2[538]? = some (891, .invokevirtual 94, 3) := (lg_10 38 (by decide)).trans rfl
theorem lr_539 : miL_law.2.2.2[539]? = some (894, .if_icmp .eq 625, 3) := (lg_10 39 (by decide)).trans rfl
theorem lr_540 : miL_law.2.2.2[540]? = some (897, .iconst 0, 1) := (lg_10 40 (by decide)).trans rfl
theorem lr_541 : miL_law.2.2.2[541]? = some (898, .ireturn, 1) := (lg_10 41 (by decide)).trans rfl
theorem lr_542 : miL_law.2.2.2[542]? = some (899, .aload_n 1, 1) := (lg_10 42 (by decide)).trans rfl
theorem lr_543 : miL_law.2.2.2[543]? = some (900, .aload_n 0, 1) := (lg_10 43 (by decide)).trans rfl
theorem lr_544 : miL_law.2.2.2[544]? = some (901, .iload 4, 2) := (lg_10 44 (by decide)).trans rfl
theorem lr_545 : miL_law.2.2.2[545]? = some (903, .iconst 1, 1) := (lg_10 45 (by decide)).trans rfl
theorem lr_546 : miL_law.2.2.2[546]? = some (904, .iadd, 1) := (lg_10 46 (by decide)).trans rfl
theorem lr_547 : miL_law.2.2.2[547]? = some (905, .iaload, 1) := (lg_10 47 (by decide)).trans rfl
theorem lr_548 : miL_law.2.2.2[548]? = some (906, .invokevirtual 95, 3) := (lg_10 48 (by decide)).trans rfl
theorem lr_549 : miL_law.2.2.2[549]? = some (909, .aload_n 2, 1) := (lg_10 49 (by decide)).trans rfl
theorem lr_550 : miL_law.2.2.2[550]? = some (910, .aload_n 0, 1) := (lg_11 0 (by decide)).trans rfl
theorem lr_551 : miL_law.2.2.2[551]? = some (911, .iload 4, 2) := (lg_11 1 (by decide)).trans rfl
theorem lr_552 : miL_law.2.2.2[552]? = some (913, .iconst 1, 1) := (lg_11 2 (by decide)).trans rfl
theorem lr_553 : miL_law.2.2.2[553]? = some (914, .iadd, 1) := (lg_11 3 (by decide)).trans rfl
theorem lr_554 : miL_law.2.2.2[554]? = some (915, .iaload, 1) := (lg_11 4 (by decide)).trans rfl
theorem lr_555 : miL_law.2.2.2[555]? = some (916, .invokevirtual 98, 3) := (lg_11 5 (by decide)).trans rfl
theorem lr_556 : miL_law.2.2.2[556]? = some (919, .if_icmp .eq 600, 3) := (lg_11 6 (by decide)).trans rfl
theorem lr_557 : miL_law.2.2.2[557]? = some (922, .iconst 0, 1) := (lg_11 7 (by decide)).trans rfl
theorem lr_558 : miL_law.2.2.2[558]? = some (923, .ireturn, 1) := (lg_11 8 (by decide)).trans rfl
theorem lr_559 : miL_law.2.2.2[559]? = some (924, .aload_n 1, 1) := (lg_11 9 (by decide)).trans rfl
theorem lr_560 : miL_law.2.2.2[560]? = some (925, .aload_n 0, 1) := (lg_11 10 (by decide)).trans rfl
theorem lr_561 : miL_law.2.2.2[561]? = some (926, .iload 4, 2) := (lg_11 11 (by decide)).trans rfl
theorem lr_562 : miL_law.2.2.2[562]? = some (928, .iconst 1, 1) := (lg_11 12 (by decide)).trans rfl
theorem lr_563 : miL_law.2.2.2[563]? = some (929, .iadd, 1) := (lg_11 13 (by decide)).trans rfl
theorem lr_564 : miL_law.2.2.2[564]? = some (930, .iaload, 1) := (lg_11 14 (by decide)).trans rfl
theorem lr_565 : miL_law.2.2.2[565]? = some (931, .invokevirtual 99, 3) := (lg_11 15 (by decide)).trans rfl
theorem lr_566 : miL_law.2.2.2[566]? = some (934, .aload_n 2, 1) := (lg_11 16 (by decide)).trans rfl
theorem lr_567 : miL_law.2.2.2[567]? = some (935, .aload_n 0, 1) := (lg_11 17 (by decide)).trans rfl
theorem lr_568 : miL_law.2.2.2[568]? = some (936, .iload 4, 2) := (lg_11 18 (by decide)).trans rfl
theorem lr_569 : miL_law.2.2.2[569]? = some (938, .iconst 1, 1) := (lg_11 19 (by decide)).trans rfl
theorem lr_570 : miL_law.2.2.2[570]? = some (939, .iadd, 1) := (lg_11 20 (by decide)).trans rfl
theorem lr_571 : miL_law.2.2.2[571]? = some (940, .iaload, 1) := (lg_11 21 (by decide)).trans rfl
theorem lr_572 : miL_law.2.2.2[572]? = some (941, .invokevirtual 103, 3) := (lg_11 22 (by decide)).trans rfl
theorem lr_573 : miL_law.2.2.2[573]? = some (944, .lcmp, 1) := (lg_11 23 (by decide)).trans rfl
theorem lr_574 : miL_law.2.2.2[574]? = some (945, .ifCond .eq 574, 3) := (lg_11 24 (by decide)).trans rfl
theorem lr_575 : miL_law.2.2.2[575]? = some (948, .iconst 0, 1) := (lg_11 25 (by decide)).trans rfl
theorem lr_576 : miL_law.2.2.2[576]? = some (949, .ireturn, 1) := (lg_11 26 (by decide)).trans rfl
theorem lr_577 : miL_law.2.2.2[577]? = some (950, .aload_n 1, 1) := (lg_11 27 (by decide)).trans rfl
theorem lr_578 : miL_law.2.2.2[578]? = some (951, .aload_n 0, 1) := (lg_11 28 (by decide)).trans rfl
theorem lr_579 : miL_law.2.2.2[579]? = some (952, .iload 4, 2) := (lg_11 29 (by decide)).trans rfl
theorem lr_580 : miL_law.2.2.2[580]? = some (954, .iconst 1, 1) := (lg_11 30 (by decide)).trans rfl
theorem lr_581 : miL_law.2.2.2[581]? = some (955, .iadd, 1) := (lg_11 31 (by decide)).trans rfl
theorem lr_582 : miL_law.2.2.2[582]? = some (956, .iaload, 1) := (lg_11 32 (by decide)).trans rfl
theorem lr_583 : miL_law.2.2.2[583]? = some (957, .invokevirtual 104, 3) := (lg_11 33 (by decide)).trans rfl
theorem lr_584 : miL_law.2.2.2[584]? = some (960, .aload_n 2, 1) := (lg_11 34 (by decide)).trans rfl
theorem lr_585 : miL_law.2.2.2[585]? = some (961, .aload_n 0, 1) := (lg_11 35 (by decide)).trans rfl
theorem lr_586 : miL_law.2.2.2[586]? = some (962, .iload 4, 2) := (lg_11 36 (by decide)).trans rfl
theorem lr_587 : miL_law.2.2.2[587]? = some (964, .iconst 1, 1) := (lg_11 37 (by decide)).trans rfl
theorem lr_588 : miL_law.2.2.2[588]? = some (965, .iadd, 1) := (lg_11 38 (by decide)).trans rfl
theorem lr_589 : miL_law.2.2.2[589]? = some (966, .iaload, 1) := (lg_11 39 (by decide)).trans rfl
theorem lr_590 : miL_law.2.2.2[590]? = some (967, .invokevirtual 107, 3) := (lg_11 40 (by decide)).trans rfl
theorem lr_591 : miL_law.2.2.2[591]? = some (970, .if_icmp .eq 549, 3) := (lg_11 41 (by decide)).trans rfl
theorem lr_592 : miL_law.2.2.2[592]? = some (973, .iconst 0, 1) := (lg_11 42 (by decide)).trans rfl
theorem lr_593 : miL_law.2.2.2[593]? = some (974, .ireturn, 1) := (lg_11 43 (by decide)).trans rfl
theorem lr_594 : miL_law.2.2.2[594]? = some (975, .aload_n 1, 1) := (lg_11 44 (by decide)).trans rfl
theorem lr_595 : miL_law.2.2.2[595]? = some (976, .aload_n 0, 1) := (lg_11 45 (by decide)).trans rfl
theorem lr_596 : miL_law.2.2.2[596]? = some (977, .iload 4, 2) := (lg_11 46 (by decide)).trans rfl
theorem lr_597 : miL_law.2.2.2[597]? = some (979, .iconst 1, 1) := (lg_11 47 (by decide)).trans rfl
theorem lr_598 : miL_law.2.2.2[598]? = some (980, .iadd, 1) := (lg_11 48 (by decide)).trans rfl
theorem lr_599 : miL_law.2.2.2[599]? = some (981, .iaload, 1) := (lg_11 49 (by decide)).trans rfl
theorem lr_600 : miL_law.2.2.2[600]? = some (982, .invokevirtual 108, 3) := (lg_12 0 (by decide)).trans rfl
theorem lr_601 : miL_law.2.2.2[601]? = some (985, .aload_n 2, 1) := (lg_12 1 (by decide)).trans rfl
theorem lr_602 : miL_law.2.2.2[602]? = some (986, .aload_n 0, 1) := (lg_12 2 (by decide)).trans rfl
theorem lr_603 : miL_law.2.2.2[603]? = some (987, .iload 4, 2) := (lg_12 3 (by decide)).trans rfl
theorem lr_604 : miL_law.2.2.2[604]? = some (989, .iconst 1, 1) := (lg_12 4 (by decide)).trans rfl
theorem lr_605 : miL_law.2.2.2[605]? = some (990, .iadd, 1) := (lg_12 5 (by decide)).trans rfl
theorem lr_606 : miL_law.2.2.2[606]? = some (991, .iaload, 1) := (lg_12 6 (by decide)).trans rfl
theorem lr_607 : miL_law.2.2.2[607]? = some (992, .invokevirtual 111, 3) := (lg_12 7 (by decide)).trans rfl
theorem lr_608 : miL_law.2.2.2[608]? = some (995, .if_icmp .eq 524, 3) := (lg_12 8 (by decide)).trans rfl
theorem lr_609 : miL_law.2.2.2[609]? = some (998, .iconst 0, 1) := (lg_12 9 (by decide)).trans rfl
theorem lr_610 : miL_law.2.2.2[610]? = some (999, .ireturn, 1) := (lg_12 10 (by decide)).trans rfl
theorem lr_611 : miL_law.2.2.2[611]? = some (1000, .aload_n 1, 1) := (lg_12 11 (by decide)).trans rfl
theorem lr_612 : miL_law.2.2.2[612]? = some (1001, .aload_n 0, 1) := (lg_12 12 (by decide)).trans rfl
theorem lr_613 : miL_law.2.2.2[613]? = some (1002, .iload 4, 2) := (lg_12 13 (by decide)).trans rfl
theorem lr_614 : miL_law.2.2.2[614]? = some (1004, .iconst 1, 1) := (lg_12 14 (by decide)).trans rfl
theorem lr_615 : miL_law.2.2.2[615]? = some (1005, .iadd, 1) := (lg_12 15 (by decide)).trans rfl
theorem lr_616 : miL_law.2.2.2[616]? = some (1006, .iaload, 1) := (lg_12 16 (by decide)).trans rfl
theorem lr_617 : miL_law.2.2.2[617]? = some (1007, .aload_n 0, 1) := (lg_12 17 (by decide)).trans rfl
theorem lr_618 : miL_law.2.2.2[618]? = some (1008, .iload 4, 2) := (lg_12 18 (by decide)).trans rfl
theorem lr_619 : miL_law.2.2.2[619]? = some (1010, .iconst 2, 1) := (lg_12 19 (by decide)).trans rfl
theorem lr_620 : miL_law.2.2.2[620]? = some (1011, .iadd, 1) := (lg_12 20 (by decide)).trans rfl
theorem lr_621 : miL_law.2.2.2[621]? = some (1012, .iaload, 1) := (lg_12 21 (by decide)).trans rfl
theorem lr_622 : miL_law.2.2.2[622]? = some (1013, .invokevirtual 112, 3) := (lg_12 22 (by decide)).trans rfl
theorem lr_623 : miL_law.2.2.2[623]? = some (1016, .aload_n 2, 1) := (lg_12 23 (by decide)).trans rfl
theorem lr_624 : miL_law.2.2.2[624]? = some (1017, .aload_n 0, 1) := (lg_12 24 (by decide)).trans rfl
theorem lr_625 : miL_law.2.2.2[625]? = some (1018, .iload 4, 2) := (lg_12 25 (by decide)).trans rfl
theorem lr_626 : miL_law.2.2.2[626]? = some (1020, .iconst 1, 1) := (lg_12 26 (by decide)).trans rfl
theorem lr_627 : miL_law.2.2.2[627]? = some (1021, .iadd, 1) := (lg_12 27 (by decide)).trans rfl
theorem lr_628 : miL_law.2.2.2[628]? = some (1022, .iaload, 1) := (lg_12 28 (by decide)).trans rfl
theorem lr_629 : miL_law.2.2.2[629]? = some (1023, .aload_n 0, 1) := (lg_12 29 (by decide)).trans rfl
theorem lr_630 : miL_law.2.2.2[630]? = some (1024, .iload 4, 2) := (lg_12 30 (by decide)).trans rfl
theorem lr_631 : miL_law.2.2.2[631]? = some (1026, .iconst 2, 1) := (lg_12 31 (by decide)).trans rfl
theorem lr_632 : miL_law.2.2.2[632]? = some (1027, .iadd, 1) := (lg_12 32 (by decide)).trans rfl
theorem lr_633 : miL_law.2.2.2[633]? = some (1028, .iaload, 1) := (lg_12 33 (by decide)).trans rfl
theorem lr_634 : miL_law.2.2.2[634]? = some (1029, .invokevirtual 115, 3) := (lg_12 34 (by decide)).trans rfl
theorem lr_635 : miL_law.2.2.2[635]? = some (1032, .lcmp, 1) := (lg_12 35 (by decide)).trans rfl
theorem lr_636 : miL_law.2.2.2[636]? = some (1033, .ifCond .eq 486, 3) := (lg_12 36 (by decide)).trans rfl
theorem lr_637 : miL_law.2.2.2[637]? = some (1036, .iconst 0, 1) := (lg_12 37 (by decide)).trans rfl
theorem lr_638 : miL_law.2.2.2[638]? = some (1037, .ireturn, 1) := (lg_12 38 (by decide)).trans rfl
theorem lr_639 : miL_law.2.2.2[639]? = some (1038, .aload_n 1, 1) := (lg_12 39 (by decide)).trans rfl
theorem lr_640 : miL_law.2.2.2[640]? = some (1039, .aload_n 0, 1) := (lg_12 40 (by decide)).trans rfl
theorem lr_641 : miL_law.2.2.2[641]? = some (1040, .iload 4, 2) := (lg_12 41 (by decide)).trans rfl
theorem lr_642 : miL_law.2.2.2[642]? = some (1042, .iconst 1, 1) := (lg_12 42 (by decide)).trans rfl
theorem lr_643 : miL_law.2.2.2[643]? = some (1043, .iadd, 1) := (lg_12 43 (by decide)).trans rfl
theorem lr_644 : miL_law.2.2.2[644]? = some (1044, .iaload, 1) := (lg_12 44 (by decide)).trans rfl
theorem lr_645 : miL_law.2.2.2[645]? = some (1045, .invokevirtual 116, 3) := (lg_12 45 (by decide)).trans rfl
theorem lr_646 : miL_law.2.2.2[646]? = some (1048, .aload_n 2, 1) := (lg_12 46 (by decide)).trans rfl
theorem lr_647 : miL_law.2.2.2[647]? = some (1049, .aload_n 0, 1) := (lg_12 47 (by decide)).trans rfl
theorem lr_648 : miL_law.2.2.2[648]? = some (1050, .iload 4, 2) := (lg_12 48 (by decide)).trans rfl
theorem lr_649 : miL_law.2.2.2[649]? = some (1052, .iconst 1, 1) := (lg_12 49 (by decide)).trans rfl
theorem lr_650 : miL_law.2.2.2[650]? = some (1053, .iadd, 1) := (lg_13 0 (by decide)).trans rfl
theorem lr_651 : miL_law.2.2.2[651]? = some (1054, .iaload, 1) := (lg_13 1 (by decide)).trans rfl
theorem lr_652 : miL_law.2.2.2[652]? = some (1055, .invokevirtual 119, 3) := (lg_13 2 (by decide)).trans rfl
theorem lr_653 : miL_law.2.2.2[653]? = some (1058, .if_icmp .eq 461, 3) := (lg_13 3 (by decide)).trans rfl
theorem lr_654 : miL_law.2.2.2[654]? = some (1061, .iconst 0, 1) := (lg_13 4 (by decide)).trans rfl
theorem lr_655 : miL_law.2.2.2[655]? = some (1062, .ireturn, 1) := (lg_13 5 (by decide)).trans rfl
theorem lr_656 : miL_law.2.2.2[656]? = some (1063, .aload_n 1, 1) := (lg_13 6 (by decide)).trans rfl
theorem lr_657 : miL_law.2.2.2[657]? = some (1064, .aload_n 0, 1) := (lg_13 7 (by decide)).trans rfl
theorem lr_658 : miL_law.2.2.2[658]? = some (1065, .iload 4, 2) := (lg_13 8 (by decide)).trans rfl
theorem lr_659 : miL_law.2.2.2[659]? = some (1067, .iconst 1, 1) := (lg_13 9 (by decide)).trans rfl
theorem lr_660 : miL_law.2.2.2[660]? = some (1068, .iadd, 1) := (lg_13 10 (by decide)).trans rfl
theorem lr_661 : miL_law.2.2.2[661]? = some (1069, .iaload, 1) := (lg_13 11 (by decide)).trans rfl
theorem lr_662 : miL_law.2.2.2[662]? = some (1070, .aload_n 0, 1) := (lg_13 12 (by decide)).trans rfl
theorem lr_663 : miL_law.2.2.2[663]? = some (1071, .iload 4, 2) := (lg_13 13 (by decide)).trans rfl
theorem lr_664 : miL_law.2.2.2[664]? = some (1073, .iconst 2, 1) := (lg_13 14 (by decide)).trans rfl
theorem lr_665 : miL_law.2.2.2[665]? = some (1074, .iadd, 1) := (lg_13 15 (by decide)).trans rfl
theorem lr_666 : miL_law.2.2.2[666]? = some (1075, .iaload, 1) := (lg_13 16 (by decide)).trans rfl
theorem lr_667 : miL_law.2.2.2[667]? = some (1076, .aload_n 0, 1) := (lg_13 17 (by decide)).trans rfl
theorem lr_668 : miL_law.2.2.2[668]? = some (1077, .iload 4, 2) := (lg_13 18 (by decide)).trans rfl
theorem lr_669 : miL_law.2.2.2[669]? = some (1079, .iconst 3, 1) := (lg_13 19 (by decide)).trans rfl
theorem lr_670 : miL_law.2.2.2[670]? = some (1080, .iadd, 1) := (lg_13 20 (by decide)).trans rfl
theorem lr_671 : miL_law.2.2.2[671]? = some (1081, .iaload, 1) := (lg_13 21 (by decide)).trans rfl
theorem lr_672 : miL_law.2.2.2[672]? = some (1082, .ifCond .eq 7, 3) := (lg_13 22 (by decide)).trans rfl
theorem lr_673 : miL_law.2.2.2[673]? = some (1085, .iconst 1, 1) := (lg_13 23 (by decide)).trans rfl
theorem lr_674 : miL_law.2.2.2[674]? = some (1086, .goto 4, 3) := (lg_13 24 (by decide)).trans rfl
theorem lr_675 : miL_law.2.2.2[675]? = some (1089, .iconst 0, 1) := (lg_13 25 (by decide)).trans rfl
theorem lr_676 : miL_law.2.2.2[676]? = some (1090, .invokevirtual 120, 3) := (lg_13 26 (by decide)).trans rfl
theorem lr_677 : miL_law.2.2.2[677]? = some (1093, .aload_n 2, 1) := (lg_13 27 (by decide)).trans rfl
theorem lr_678 : miL_law.2.2.2[678]? = some (1094, .aload_n 0, 1) := (lg_13 28 (by decide)).trans rfl
theorem lr_679 : miL_law.2.2.2[679]? = some (1095, .iload 4, 2) := (lg_13 29 (by decide)).trans rfl
theorem lr_680 : miL_law.2.2.2[680]? = some (1097, .iconst 1, 1) := (lg_13 30 (by decide)).trans rfl
theorem lr_681 : miL_law.2.2.2[681]? = some (1098, .iadd, 1) := (lg_13 31 (by decide)).trans rfl
theorem lr_682 : miL_law.2.2.2[682]? = some (1099, .iaload, 1) := (lg_13 32 (by decide)).trans rfl
theorem lr_683 : miL_law.2.2.2[683]? = some (1100, .aload_n 0, 1) := (lg_13 33 (by decide)).trans rfl
theorem lr_684 : miL_law.2.2.2[684]? = some (1101, .iload 4, 2) := (lg_13 34 (by decide)).trans rfl
theorem lr_685 : miL_law.2.2.2[685]? = some (1103, .iconst 2, 1) := (lg_13 35 (by decide)).trans rfl
theorem lr_686 : miL_law.2.2.2[686]? = some (1104, .iadd, 1) := (lg_13 36 (by decide)).trans rfl
theorem lr_687 : miL_law.2.2.2[687]? = some (1105, .iaload, 1) := (lg_13 37 (by decide)).trans rfl
theorem lr_688 : miL_law.2.2.2[688]? = some (1106, .aload_n 0, 1) := (lg_13 38 (by decide)).trans rfl
theorem lr_689 : miL_law.2.2.2[689]? = some (1107, .iload 4, 2) := (lg_13 39 (by decide)).trans rfl
theorem lr_690 : miL_law.2.2.2[690]? = some (1109, .iconst 3, 1) := (lg_13 40 (by decide)).trans rfl
theorem lr_691 : miL_law.2.2.2[691]? = some (1110, .iadd, 1) := (lg_13 41 (by decide)).trans rfl
theorem lr_692 : miL_law.2.2.2[692]? = some (1111, .iaload, 1) := (lg_13 42 (by decide)).trans rfl
theorem lr_693 : miL_law.2.2.2[693]? = some (1112, .ifCond .eq 7, 3) := (lg_13 43 (by decide)).trans rfl
theorem lr_694 : miL_law.2.2.2[694]? = some (1115, .iconst 1, 1) := (lg_13 44 (by decide)).trans rfl
theorem lr_695 : miL_law.2.2.2[695]? = some (1116, .goto 4, 3) := (lg_13 45 (by decide)).trans rfl
theorem lr_696 : miL_law.2.2.2[696]? = some (1119, .iconst 0, 1) := (lg_13 46 (by decide)).trans rfl
theorem lr_697 : miL_law.2.2.2[697]? = some (1120, .invokevirtual 123, 3) := (lg_13 47 (by decide)).trans rfl
theorem lr_698 : miL_law.2.2.2[698]? = some (1123, .if_icmp .eq 396, 3) := (lg_13 48 (by decide)).trans rfl
theorem lr_699 : miL_law.2.2.2[699]? = some (1126, .iconst 0, 1) := (lg_13 49 (by decide)).trans rfl
theorem lr_700 : miL_law.2.2.2[700]? = some (1127, .ireturn, 1) := (lg_14 0 (by decide)).trans rfl
theorem lr_701 : miL_law.2.2.2[701]? = some (1128, .aload_n 1, 1) := (lg_14 1 (by decide)).trans rfl
theorem lr_702 : miL_law.2.2.2[702]? = some (1129, .aload_n 0, 1) := (lg_14 2 (by decide)).trans rfl
theorem lr_703 : miL_law.2.2.2[703]? = some (1130, .iload 4, 2) := (lg_14 3 (by decide)).trans rfl
theorem lr_704 : miL_law.2.2.2[704]? = some (1132, .iconst 1, 1) := (lg_14 4 (by decide)).trans rfl
theorem lr_705 : miL_law.2.2.2[705]? = some (1133, .iadd, 1) := (lg_14 5 (by decide)).trans rfl
theorem lr_706 : miL_law.2.2.2[706]? = some (1134, .iaload, 1) := (lg_14 6 (by decide)).trans rfl
theorem lr_707 : miL_law.2.2.2[707]? = some (1135, .invokevirtual 124, 3) := (lg_14 7 (by decide)).trans rfl
theorem lr_708 : miL_law.2.2.2[708]? = some (1138, .aload_n 2, 1) := (lg_14 8 (by decide)).trans rfl
theorem lr_709 : miL_law.2.2.2[709]? = some (1139, .aload_n 0, 1) := (lg_14 9 (by decide)).trans rfl
theorem lr_710 : miL_law.2.2.2[710]? = some (1140, .iload 4, 2) := (lg_14 10 (by decide)).trans rfl
theorem lr_711 : miL_law.2.2.2[711]? = some (1142, .iconst 1, 1) := (lg_14 11 (by decide)).trans rfl
theorem lr_712 : miL_law.2.2.2[712]? = some (1143, .iadd, 1) := (lg_14 12 (by decide)).trans rfl
theorem lr_713 : miL_law.2.2.2[713]? = some (1144, .iaload, 1) := (lg_14 13 (by decide)).trans rfl
theorem lr_714 : miL_law.2.2.2[714]? = some (1145, .invokevirtual 127, 3) := (lg_14 14 (by decide)).trans rfl
theorem lr_715 : miL_law.2.2.2[715]? = some (1148, .if_icmp .eq 371, 3) := (lg_14 15 (by decide)).trans rfl
theorem lr_716 : miL_law.2.2.2[716]? = some (1151, .iconst 0, 1) := (lg_14 16 (by decide)).trans rfl
theorem lr_717 : miL_law.2.2.2[717]? = some (1152, .ireturn, 1) := (lg_14 17 (by decide)).trans rfl
theorem lr_718 : miL_law.2.2.2[718]? = some (1153, .aload_n 1, 1) := (lg_14 18 (by decide)).trans rfl
theorem lr_719 : miL_law.2.2.2[719]? = some (1154, .aload_n 0, 1) := (lg_14 19 (by decide)).trans rfl
theorem lr_720 : miL_law.2.2.2[720]? = some (1155, .iload 4, 2) := (lg_14 20 (by decide)).trans rfl
theorem lr_721 : miL_law.2.2.2[721]? = some (1157, .iconst 1, 1) := (lg_14 21 (by decide)).trans rfl
theorem lr_722 : miL_law.2.2.2[722]? = some (1158, .iadd, 1) := (lg_14 22 (by decide)).trans rfl
theorem lr_723 : miL_law.2.2.2[723]? = some (1159, .iaload, 1) := (lg_14 23 (by decide)).trans rfl
theorem lr_724 : miL_law.2.2.2[724]? = some (1160, .aload_n 0, 1) := (lg_14 24 (by decide)).trans rfl
theorem lr_725 : miL_law.2.2.2[725]? = some (1161, .iload 4, 2) := (lg_14 25 (by decide)).trans rfl
theorem lr_726 : miL_law.2.2.2[726]? = some (1163, .iconst 2, 1) := (lg_14 26 (by decide)).trans rfl
theorem lr_727 : miL_law.2.2.2[727]? = some (1164, .iadd, 1) := (lg_14 27 (by decide)).trans rfl
theorem lr_728 : miL_law.2.2.2[728]? = some (1165, .iaload, 1) := (lg_14 28 (by decide)).trans rfl
theorem lr_729 : miL_law.2.2.2[729]? = some (1166, .invokevirtual 128, 3) := (lg_14 29 (by decide)).trans rfl
theorem lr_730 : miL_law.2.2.2[730]? = some (1169, .aload_n 2, 1) := (lg_14 30 (by decide)).trans rfl
theorem lr_731 : miL_law.2.2.2[731]? = some (1170, .aload_n 0, 1) := (lg_14 31 (by decide)).trans rfl
theorem lr_732 : miL_law.2.2.2[732]? = some (1171, .iload 4, 2) := (lg_14 32 (by decide)).trans rfl
theorem lr_733 : miL_law.2.2.2[733]? = some (1173, .iconst 1, 1) := (lg_14 33 (by decide)).trans rfl
theorem lr_734 : miL_law.2.2.2[734]? = some (1174, .iadd, 1) := (lg_14 34 (by decide)).trans rfl
theorem lr_735 : miL_law.2.2.2[735]? = some (1175, .iaload, 1) := (lg_14 35 (by decide)).trans rfl
theorem lr_736 : miL_law.2.2.2[736]? = some (1176, .aload_n 0, 1) := (lg_14 36 (by decide)).trans rfl
theorem lr_737 : miL_law.2.2.2[737]? = some (1177, .iload 4, 2) := (lg_14 37 (by decide)).trans rfl
theorem lr_738 : miL_law.2.2.2[738]? = some (1179, .iconst 2, 1) := (lg_14 38 (by decide)).trans rfl
theorem lr_739 : miL_law.2.2.2[739]? = some (1180, .iadd, 1) := (lg_14 39 (by decide)).trans rfl
theorem lr_740 : miL_law.2.2.2[740]? = some (1181, .iaload, 1) := (lg_14 40 (by decide)).trans rfl
theorem lr_741 : miL_law.2.2.2[741]? = some (1182, .invokevirtual 131, 3) := (lg_14 41 (by decide)).trans rfl
theorem lr_742 : miL_law.2.2.2[742]? = some (1185, .if_icmp .eq 334, 3) := (lg_14 42 (by decide)).trans rfl
theorem lr_743 : miL_law.2.2.2[743]? = some (1188, .iconst 0, 1) := (lg_14 43 (by decide)).trans rfl
theorem lr_744 : miL_law.2.2.2[744]? = some (1189, .ireturn, 1) := (lg_14 44 (by decide)).trans rfl
theorem lr_745 : miL_law.2.2.2[745]? = some (1190, .aload_n 1, 1) := (lg_14 45 (by decide)).trans rfl
theorem lr_746 : miL_law.2.2.2[746]? = some (1191, .aload_n 0, 1) := (lg_14 46 (by decide)).trans rfl
theorem lr_747 : miL_law.2.2.2[747]? = some (1192, .iload 4, 2) := (lg_14 47 (by decide)).trans rfl
theorem lr_748 : miL_law.2.2.2[748]? = some (1194, .iconst 1, 1) := (lg_14 48 (by decide)).trans rfl
theorem lr_749 : miL_law.2.2.2[749]? = some (1195, .iadd, 1) := (lg_14 49 (by decide)).trans rfl
theorem lr_750 : miL_law.2.2.2[750]? = some (1196, .iaload, 1) := (lg_15 0 (by decide)).trans rfl
theorem lr_751 : miL_law.2.2.2[751]? = some (1197, .invokevirtual 132, 3) := (lg_15 1 (by decide)).trans rfl
theorem lr_752 : miL_law.2.2.2[752]? = some (1200, .aload_n 2, 1) := (lg_15 2 (by decide)).trans rfl
theorem lr_753 : miL_law.2.2.2[753]? = some (1201, .aload_n 0, 1) := (lg_15 3 (by decide)).trans rfl
theorem lr_754 : miL_law.2.2.2[754]? = some (1202, .iload 4, 2) := (lg_15 4 (by decide)).trans rfl
theorem lr_755 : miL_law.2.2.2[755]? = some (1204, .iconst 1, 1) := (lg_15 5 (by decide)).trans rfl
theorem lr_756 : miL_law.2.2.2[756]? = some (1205, .iadd, 1) := (lg_15 6 (by decide)).trans rfl
theorem lr_757 : miL_law.2.2.2[757]? = some (1206, .iaload, 1) := (lg_15 7 (by decide)).trans rfl
theorem lr_758 : miL_law.2.2.2[758]? = some (1207, .invokevirtual 135, 3) := (lg_15 8 (by decide)).trans rfl
theorem lr_759 : miL_law.2.2.2[759]? = some (1210, .if_icmp .eq 309, 3) := (lg_15 9 (by decide)).trans rfl
theorem lr_760 : miL_law.2.2.2[760]? = some (1213, .iconst 0, 1) := (lg_15 10 (by decide)).trans rfl
theorem lr_761 : miL_law.2.2.2[761]? = some (1214, .ireturn, 1) := (lg_15 11 (by decide)).trans rfl
theorem lr_762 : miL_law.2.2.2[762]? = some (1215, .aload_n 1, 1) := (lg_15 12 (by decide)).trans rfl
theorem lr_763 : miL_law.2.2.2[763]? = some (1216, .aload_n 0, 1) := (lg_15 13 (by decide)).trans rfl
theorem lr_764 : miL_law.2.2.2[764]? = some (1217, .iload 4, 2) := (lg_15 14 (by decide)).trans rfl
theorem lr_765 : miL_law.2.2.2[765]? = some (1219, .iconst 1, 1) := (lg_15 15 (by decide)).trans rfl
theorem lr_766 : miL_law.2.2.2[766]? = some (1220, .iadd, 1) := (lg_15 16 (by decide)).trans rfl
theorem lr_767 : miL_law.2.2.2[767]? = some (1221, .iaload, 1) := (lg_15 17 (by decide)).trans rfl
theorem lr_768 : miL_law.2.2.2[768]? = some (1222, .invokevirtual 136, 3) := (lg_15 18 (by decide)).trans rfl
theorem lr_769 : miL_law.2.2.2[769]? = some (1225, .aload_n 2, 1) := (lg_15 19 (by decide)).trans rfl
theorem lr_770 : miL_law.2.2.2[770]? = some (1226, .aload_n 0, 1) := (lg_15 20 (by decide)).trans rfl
theorem lr_771 : miL_law.2.2.2[771]? = some (1227, .iload 4, 2) := (lg_15 21 (by decide)).trans rfl
theorem lr_772 : miL_law.2.2.2[772]? = some (1229, .iconst 1, 1) := (lg_15 22 (by decide)).trans rfl
theorem lr_773 : miL_law.2.2.2[773]? = some (1230, .iadd, 1) := (lg_15 23 (by decide)).trans rfl
theorem lr_774 : miL_law.2.2.2[774]? = some (1231, .iaload, 1) := (lg_15 24 (by decide)).trans rfl
theorem lr_775 : miL_law.2.2.2[775]? = some (1232, .invokevirtual 139, 3) := (lg_15 25 (by decide)).trans rfl
theorem lr_776 : miL_law.2.2.2[776]? = some (1235, .if_icmp .eq 284, 3) := (lg_15 26 (by decide)).trans rfl
theorem lr_777 : miL_law.2.2.2[777]? = some (1238, .iconst 0, 1) := (lg_15 27 (by decide)).trans rfl
theorem lr_778 : miL_law.2.2.2[778]? = some (1239, .ireturn, 1) := (lg_15 28 (by decide)).trans rfl
theorem lr_779 : miL_law.2.2.2[779]? = some (1240, .aload_n 1, 1) := (lg_15 29 (by decide)).trans rfl
theorem lr_780 : miL_law.2.2.2[780]? = some (1241, .aload_n 0, 1) := (lg_15 30 (by decide)).trans rfl
theorem lr_781 : miL_law.2.2.2[781]? = some (1242, .iload 4, 2) := (lg_15 31 (by decide)).trans rfl
theorem lr_782 : miL_law.2.2.2[782]? = some (1244, .iconst 1, 1) := (lg_15 32 (by decide)).trans rfl
theorem lr_783 : miL_law.2.2.2[783]? = some (1245, .iadd, 1) := (lg_15 33 (by decide)).trans rfl
theorem lr_784 : miL_law.2.2.2[784]? = some (1246, .iaload, 1) := (lg_15 34 (by decide)).trans rfl
theorem lr_785 : miL_law.2.2.2[785]? = some (1247, .aload_n 0, 1) := (lg_15 35 (by decide)).trans rfl
theorem lr_786 : miL_law.2.2.2[786]? = some (1248, .iload 4, 2) := (lg_15 36 (by decide)).trans rfl
theorem lr_787 : miL_law.2.2.2[787]? = some (1250, .iconst 2, 1) := (lg_15 37 (by decide)).trans rfl
theorem lr_788 : miL_law.2.2.2[788]? = some (1251, .iadd, 1) := (lg_15 38 (by decide)).trans rfl
theorem lr_789 : miL_law.2.2.2[789]? = some (1252, .iaload, 1) := (lg_15 39 (by decide)).trans rfl
theorem lr_790 : miL_law.2.2.2[790]? = some (1253, .invokevirtual 140, 3) := (lg_15 40 (by decide)).trans rfl
theorem lr_791 : miL_law.2.2.2[791]? = some (1256, .aload_n 2, 1) := (lg_15 41 (by decide)).trans rfl
theorem lr_792 : miL_law.2.2.2[792]? = some (1257, .aload_n 0, 1) := (lg_15 42 (by decide)).trans rfl
theorem lr_793 : miL_law.2.2.2[793]? = some (1258, .iload 4, 2) := (lg_15 43 (by decide)).trans rfl
theorem lr_794 : miL_law.2.2.2[794]? = some (1260, .iconst 1, 1) := (lg_15 44 (by decide)).trans rfl
theorem lr_795 : miL_law.2.2.2[795]? = some (1261, .iadd, 1) := (lg_15 45 (by decide)).trans rfl
theorem lr_796 : miL_law.2.2.2[796]? = some (1262, .iaload, 1) := (lg_15 46 (by decide)).trans rfl
theorem lr_797 : miL_law.2.2.2[797]? = some (1263, .aload_n 0, 1) := (lg_15 47 (by decide)).trans rfl
theorem lr_798 : miL_law.2.2.2[798]? = some (1264, .iload 4, 2) := (lg_15 48 (by decide)).trans rfl
theorem lr_799 : miL_law.2.2.2[799]? = some (1266, .iconst 2, 1) := (lg_15 49 (by decide)).trans rfl
theorem lr_800 : miL_law.2.2.2[800]? = some (1267, .iadd, 1) := (lg_16 0 (by decide)).trans rfl
theorem lr_801 : miL_law.2.2.2[801]? = some (1268, .iaload, 1) := (lg_16 1 (by decide)).trans rfl
theorem lr_802 : miL_law.2.2.2[802]? = some (1269, .invokevirtual 143, 3) := (lg_16 2 (by decide)).trans rfl
theorem lr_803 : miL_law.2.2.2[803]? = some (1272, .if_icmp .eq 247, 3) := (lg_16 3 (by decide)).trans rfl
theorem lr_804 : miL_law.2.2.2[804]? = some (1275, .iconst 0, 1) := (lg_16 4 (by decide)).trans rfl
theorem lr_805 : miL_law.2.2.2[805]? = some (1276, .ireturn, 1) := (lg_16 5 (by decide)).trans rfl
theorem lr_806 : miL_law.2.2.2[806]? = some (1277, .aload_n 1, 1) := (lg_16 6 (by decide)).trans rfl
theorem lr_807 : miL_law.2.2.2[807]? = some (1278, .aload_n 0, 1) := (lg_16 7 (by decide)).trans rfl
theorem lr_808 : miL_law.2.2.2[808]? = some (1279, .iload 4, 2) := (lg_16 8 (by decide)).trans rfl
theorem lr_809 : miL_law.2.2.2[809]? = some (1281, .iconst 1, 1) := (lg_16 9 (by decide)).trans rfl
theorem lr_810 : miL_law.2.2.2[810]? = some (1282, .iadd, 1) := (lg_16 10 (by decide)).trans rfl
theorem lr_811 : miL_law.2.2.2[811]? = some (1283, .iaload, 1) := (lg_16 11 (by decide)).trans rfl
theorem lr_812 : miL_law.2.2.2[812]? = some (1284, .aload_n 0, 1) := (lg_16 12 (by decide)).trans rfl
theorem lr_813 : miL_law.2.2.2[813]? = some (1285, .iload 4, 2) := (lg_16 13 (by decide)).trans rfl
theorem lr_814 : miL_law.2.2.2[814]? = some (1287, .iconst 2, 1) := (lg_16 14 (by decide)).trans rfl
theorem lr_815 : miL_law.2.2.2[815]? = some (1288, .iadd, 1) := (lg_16 15 (by decide)).trans rfl
theorem lr_816 : miL_law.2.2.2[816]? = some (1289, .iaload, 1) := (lg_16 16 (by decide)).trans rfl
theorem lr_817 : miL_law.2.2.2[817]? = some (1290, .aload_n 0, 1) := (lg_16 17 (by decide)).trans rfl
theorem lr_818 : miL_law.2.2.2[818]? = some (1291, .iload 4, 2) := (lg_16 18 (by decide)).trans rfl
theorem lr_819 : miL_law.2.2.2[819]? = some (1293, .iconst 3, 1) := (lg_16 19 (by decide)).trans rfl
theorem lr_820 : miL_law.2.2.2[820]? = some (1294, .iadd, 1) := (lg_16 20 (by decide)).trans rfl
theorem lr_821 : miL_law.2.2.2[821]? = some (1295, .iaload, 1) := (lg_16 21 (by decide)).trans rfl
theorem lr_822 : miL_law.2.2.2[822]? = some (1296, .invokevirtual 144, 3) := (lg_16 22 (by decide)).trans rfl
theorem lr_823 : miL_law.2.2.2[823]? = some (1299, .aload_n 2, 1) := (lg_16 23 (by decide)).trans rfl
theorem lr_824 : miL_law.2.2.2[824]? = some (1300, .aload_n 0, 1) := (lg_16 24 (by decide)).trans rfl
theorem lr_825 : miL_law.2.2.2[825]? = some (1301, .iload 4, 2) := (lg_16 25 (by decide)).trans rfl
theorem lr_826 : miL_law.2.2.2[826]? = some (1303, .iconst 1, 1) := (lg_16 26 (by decide)).trans rfl
theorem lr_827 : miL_law.2.2.2[827]? = some (1304, .iadd, 1) := (lg_16 27 (by decide)).trans rfl
theorem lr_828 : miL_law.2.2.2[828]? = some (1305, .iaload, 1) := (lg_16 28 (by decide)).trans rfl
theorem lr_829 : miL_law.2.2.2[829]? = some (1306, .aload_n 0, 1) := (lg_16 29 (by decide)).trans rfl
theorem lr_830 : miL_law.2.2.2[830]? = some (1307, .iload 4, 2) := (lg_16 30 (by decide)).trans rfl
theorem lr_831 : miL_law.2.2.2[831]? = some (1309, .iconst 2, 1) := (lg_16 31 (by decide)).trans rfl
theorem lr_832 : miL_law.2.2.2[832]? = some (1310, .iadd, 1) := (lg_16 32 (by decide)).trans rfl
theorem lr_833 : miL_law.2.2.2[833]? = some (1311, .iaload, 1) := (lg_16 33 (by decide)).trans rfl
theorem lr_834 : miL_law.2.2.2[834]? = some (1312, .aload_n 0, 1) := (lg_16 34 (by decide)).trans rfl
theorem lr_835 : miL_law.2.2.2[835]? = some (1313, .iload 4, 2) := (lg_16 35 (by decide)).trans rfl
theorem lr_836 : miL_law.2.2.2[836]? = some (1315, .iconst 3, 1) := (lg_16 36 (by decide)).trans rfl
theorem lr_837 : miL_law.2.2.2[837]? = some (1316, .iadd, 1) := (lg_16 37 (by decide)).trans rfl
theorem lr_838 : miL_law.2.2.2[838]? = some (1317, .iaload, 1) := (lg_16 38 (by decide)).trans rfl
theorem lr_839 : miL_law.2.2.2[839]? = some (1318, .invokevirtual 148, 3) := (lg_16 39 (by decide)).trans rfl
theorem lr_840 : miL_law.2.2.2[840]? = some (1321, .if_icmp .eq 198, 3) := (lg_16 40 (by decide)).trans rfl
theorem lr_841 : miL_law.2.2.2[841]? = some (1324, .iconst 0, 1) := (lg_16 41 (by decide)).trans rfl
theorem lr_842 : miL_law.2.2.2[842]? = some (1325, .ireturn, 1) := (lg_16 42 (by decide)).trans rfl
theorem lr_843 : miL_law.2.2.2[843]? = some (1326, .aload_n 1, 1) := (lg_16 43 (by decide)).trans rfl
theorem lr_844 : miL_law.2.2.2[844]? = some (1327, .aload_n 0, 1) := (lg_16 44 (by decide)).trans rfl
theorem lr_845 : miL_law.2.2.2[845]? = some (1328, .iload 4, 2) := (lg_16 45 (by decide)).trans rfl
theorem lr_846 : miL_law.2.2.2[846]? = some (1330, .iconst 1, 1) := (lg_16 46 (by decide)).trans rfl
theorem lr_847 : miL_law.2.2.2[847]? = some (1331, .iadd, 1) := (lg_16 47 (by decide)).trans rfl
theorem lr_848 : miL_law.2.2.2[848]? = some (1332, .iaload, 1) := (lg_16 48 (by decide)).trans rfl
theorem lr_849 : miL_law.2.2.2[849]? = some (1333, .aload_n 0, 1) := (lg_16 49 (by decide)).trans rfl
theorem lr_850 : miL_law.2.2.2[850]? = some (1334, .iload 4, 2) := (lg_17 0 (by decide)).trans rfl
theorem lr_851 : miL_law.2.2.2[851]? = some (1336, .iconst 2, 1) := (lg_17 1 (by decide)).trans rfl
theorem lr_852 : miL_law.2.2.2[852]? = some (1337, .iadd, 1) := (lg_17 2 (by decide)).trans rfl
theorem lr_853 : miL_law.2.2.2[853]? = some (1338, .iaload, 1) := (lg_17 3 (by decide)).trans rfl
theorem lr_854 : miL_law.2.2.2[854]? = some (1339, .invokevirtual 149, 3) := (lg_17 4 (by decide)).trans rfl
theorem lr_855 : miL_law.2.2.2[855]? = some (1342, .aload_n 2, 1) := (lg_17 5 (by decide)).trans rfl
theorem lr_856 : miL_law.2.2.2[856]? = some (1343, .aload_n 0, 1) := (lg_17 6 (by decide)).trans rfl
theorem lr_857 : miL_law.2.2.2[857]? = some (1344, .iload 4, 2) := (lg_17 7 (by decide)).trans rfl
theorem lr_858 : miL_law.2.2.2[858]? = some (1346, .iconst 1, 1) := (lg_17 8 (by decide)).trans rfl
theorem lr_859 : miL_law.2.2.2[859]? = some (1347, .iadd, 1) := (lg_17 9 (by decide)).trans rfl
theorem lr_860 : miL_law.2.2.2[860]? = some (1348, .iaload, 1) := (lg_17 10 (by decide)).trans rfl
theorem lr_861 : miL_law.2.2.2[861]? = some (1349, .aload_n 0, 1) := (lg_17 11 (by decide)).trans rfl
theorem lr_862 : miL_law.2.2.2[862]? = some (1350, .iload 4, 2) := (lg_17 12 (by decide)).trans rfl
theorem lr_863 : miL_law.2.2.2[863]? = some (1352, .iconst 2, 1) := (lg_17 13 (by decide)).trans rfl
theorem lr_864 : miL_law.2.2.2[864]? = some (1353, .iadd, 1) := (lg_17 14 (by decide)).trans rfl
theorem lr_865 : miL_law.2.2.2[865]? = some (1354, .iaload, 1) := (lg_17 15 (by decide)).trans rfl
theorem lr_866 : miL_law.2.2.2[866]? = some (1355, .invokevirtual 152, 3) := (lg_17 16 (by decide)).trans rfl
theorem lr_867 : miL_law.2.2.2[867]? = some (1358, .if_icmp .eq 161, 3) := (lg_17 17 (by decide)).trans rfl
theorem lr_868 : miL_law.2.2.2[868]? = some (1361, .iconst 0, 1) := (lg_17 18 (by decide)).trans rfl
theorem lr_869 : miL_law.2.2.2[869]? = some (1362, .ireturn, 1) := (lg_17 19 (by decide)).trans rfl
theorem lr_870 : miL_law.2.2.2[870]? = some (1363, .aload_n 1, 1) := (lg_17 20 (by decide)).trans rfl
theorem lr_871 : miL_law.2.2.2[871]? = some (1364, .aload_n 0, 1) := (lg_17 21 (by decide)).trans rfl
theorem lr_872 : miL_law.2.2.2[872]? = some (1365, .iload 4, 2) := (lg_17 22 (by decide)).trans rfl
theorem lr_873 : miL_law.2.2.2[873]? = some (1367, .iconst 1, 1) := (lg_17 23 (by decide)).trans rfl
theorem lr_874 : miL_law.2.2.2[874]? = some (1368, .iadd, 1) := (lg_17 24 (by decide)).trans rfl
theorem lr_875 : miL_law.2.2.2[875]? = some (1369, .iaload, 1) := (lg_17 25 (by decide)).trans rfl
theorem lr_876 : miL_law.2.2.2[876]? = some (1370, .invokevirtual 153, 3) := (lg_17 26 (by decide)).trans rfl
theorem lr_877 : miL_law.2.2.2[877]? = some (1373, .aload_n 2, 1) := (lg_17 27 (by decide)).trans rfl
theorem lr_878 : miL_law.2.2.2[878]? = some (1374, .aload_n 0, 1) := (lg_17 28 (by decide)).trans rfl
theorem lr_879 : miL_law.2.2.2[879]? = some (1375, .iload 4, 2) := (lg_17 29 (by decide)).trans rfl
theorem lr_880 : miL_law.2.2.2[880]? = some (1377, .iconst 1, 1) := (lg_17 30 (by decide)).trans rfl
theorem lr_881 : miL_law.2.2.2[881]? = some (1378, .iadd, 1) := (lg_17 31 (by decide)).trans rfl
theorem lr_882 : miL_law.2.2.2[882]? = some (1379, .iaload, 1) := (lg_17 32 (by decide)).trans rfl
theorem lr_883 : miL_law.2.2.2[883]? = some (1380, .invokevirtual 156, 3) := (lg_17 33 (by decide)).trans rfl
theorem lr_884 : miL_law.2.2.2[884]? = some (1383, .if_icmp .eq 136, 3) := (lg_17 34 (by decide)).trans rfl
theorem lr_885 : miL_law.2.2.2[885]? = some (1386, .iconst 0, 1) := (lg_17 35 (by decide)).trans rfl
theorem lr_886 : miL_law.2.2.2[886]? = some (1387, .ireturn, 1) := (lg_17 36 (by decide)).trans rfl
theorem lr_887 : miL_law.2.2.2[887]? = some (1388, .aload_n 1, 1) := (lg_17 37 (by decide)).trans rfl
theorem lr_888 : miL_law.2.2.2[888]? = some (1389, .invokevirtual 157, 3) := (lg_17 38 (by decide)).trans rfl
theorem lr_889 : miL_law.2.2.2[889]? = some (1392, .aload_n 2, 1) := (lg_17 39 (by decide)).trans rfl
theorem lr_890 : miL_law.2.2.2[890]? = some (1393, .invokevirtual 160, 3) := (lg_17 40 (by decide)).trans rfl
theorem lr_891 : miL_law.2.2.2[891]? = some (1396, .if_icmp .eq 123, 3) := (lg_17 41 (by decide)).trans rfl
theorem lr_892 : miL_law.2.2.2[892]? = some (1399, .iconst 0, 1) := (lg_17 42 (by decide)).trans rfl
theorem lr_893 : miL_law.2.2.2[893]? = some (1400, .ireturn, 1) := (lg_17 43 (by decide)).trans rfl
theorem lr_894 : miL_law.2.2.2[894]? = some (1401, .aload_n 1, 1) := (lg_17 44 (by decide)).trans rfl
theorem lr_895 : miL_law.2.2.2[895]? = some (1402, .aload_n 0, 1) := (lg_17 45 (by decide)).trans rfl
theorem lr_896 : miL_law.2.2.2[896]? = some (1403, .iload 4, 2) := (lg_17 46 (by decide)).trans rfl
theorem lr_897 : miL_law.2.2.2[897]? = some (1405, .iconst 1, 1) := (lg_17 47 (by decide)).trans rfl
theorem lr_898 : miL_law.2.2.2[898]? = some (1406, .iadd, 1) := (lg_17 48 (by decide)).trans rfl
theorem lr_899 : miL_law.2.2.2[899]? = some (1407, .iaload, 1) := (lg_17 49 (by decide)).trans rfl
theorem lr_900 : miL_law.2.2.2[900]? = some (1408, .aload_n 0, 1) := (lg_18 0 (by decide)).trans rfl
theorem lr_901 : miL_law.2.2.2[901]? = some (1409, .iload 4, 2) := (lg_18 1 (by decide)).trans rfl
theorem lr_902 : miL_law.2.2.2[902]? = some (1411, .iconst 2, 1) := (lg_18 2 (by decide)).trans rfl
theorem lr_903 : miL_law.2.2.2[903]? = some (1412, .iadd, 1) := (lg_18 3 (by decide)).trans rfl
theorem lr_904 : miL_law.2.2.2[904]? = some (1413, .iaload, 1) := (lg_18 4 (by decide)).trans rfl
theorem lr_905 : miL_law.2.2.2[905]? = some (1414, .invokevirtual 161, 3) := (lg_18 5 (by decide)).trans rfl
theorem lr_906 : miL_law.2.2.2[906]? = some (1417, .aload_n 2, 1) := (lg_18 6 (by decide)).trans rfl
theorem lr_907 : miL_law.2.2.2[907]? = some (1418, .aload_n 0, 1) := (lg_18 7 (by decide)).trans rfl
theorem lr_908 : miL_law.2.2.2[908]? = some (1419, .iload 4, 2) := (lg_18 8 (by decide)).trans rfl
theorem lr_909 : miL_law.2.2.2[909]? = some (1421, .iconst 1, 1) := (lg_18 9 (by decide)).trans rfl
theorem lr_910 : miL_law.2.2.2[910]? = some (1422, .iadd, 1) := (lg_18 10 (by decide)).trans rfl
theorem lr_911 : miL_law.2.2.2[911]? = some (1423, .iaload, 1) := (lg_18 11 (by decide)).trans rfl
theorem lr_912 : miL_law.2.2.2[912]? = some (1424, .aload_n 0, 1) := (lg_18 12 (by decide)).trans rfl
theorem lr_913 : miL_law.2.2.2[913]? = some (1425, .iload 4, 2) := (lg_18 13 (by decide)).trans rfl
theorem lr_914 : miL_law.2.2.2[914]? = some (1427, .iconst 2, 1) := (lg_18 14 (by decide)).trans rfl
theorem lr_915 : miL_law.2.2.2[915]? = some (1428, .iadd, 1) := (lg_18 15 (by decide)).trans rfl
theorem lr_916 : miL_law.2.2.2[916]? = some (1429, .iaload, 1) := (lg_18 16 (by decide)).trans rfl
theorem lr_917 : miL_law.2.2.2[917]? = some (1430, .invokevirtual 164, 3) := (lg_18 17 (by decide)).trans rfl
theorem lr_918 : miL_law.2.2.2[918]? = some (1433, .if_icmp .eq 86, 3) := (lg_18 18 (by decide)).trans rfl
theorem lr_919 : miL_law.2.2.2[919]? = some (1436, .iconst 0, 1) := (lg_18 19 (by decide)).trans rfl
theorem lr_920 : miL_law.2.2.2[920]? = some (1437, .ireturn, 1) := (lg_18 20 (by decide)).trans rfl
theorem lr_921 : miL_law.2.2.2[921]? = some (1438, .aload_n 1, 1) := (lg_18 21 (by decide)).trans rfl
theorem lr_922 : miL_law.2.2.2[922]? = some (1439, .aload_n 0, 1) := (lg_18 22 (by decide)).trans rfl
theorem lr_923 : miL_law.2.2.2[923]? = some (1440, .iload 4, 2) := (lg_18 23 (by decide)).trans rfl
theorem lr_924 : miL_law.2.2.2[924]? = some (1442, .iconst 1, 1) := (lg_18 24 (by decide)).trans rfl
theorem lr_925 : miL_law.2.2.2[925]? = some (1443, .iadd, 1) := (lg_18 25 (by decide)).trans rfl
theorem lr_926 : miL_law.2.2.2[926]? = some (1444, .iaload, 1) := (lg_18 26 (by decide)).trans rfl
theorem lr_927 : miL_law.2.2.2[927]? = some (1445, .invokevirtual 165, 3) := (lg_18 27 (by decide)).trans rfl
theorem lr_928 : miL_law.2.2.2[928]? = some (1448, .aload_n 2, 1) := (lg_18 28 (by decide)).trans rfl
theorem lr_929 : miL_law.2.2.2[929]? = some (1449, .aload_n 0, 1) := (lg_18 29 (by decide)).trans rfl
theorem lr_930 : miL_law.2.2.2[930]? = some (1450, .iload 4, 2) := (lg_18 30 (by decide)).trans rfl
theorem lr_931 : miL_law.2.2.2[931]? = some (1452, .iconst 1, 1) := (lg_18 31 (by decide)).trans rfl
theorem lr_932 : miL_law.2.2.2[932]? = some (1453, .iadd, 1) := (lg_18 32 (by decide)).trans rfl
theorem lr_933 : miL_law.2.2.2[933]? = some (1454, .iaload, 1) := (lg_18 33 (by decide)).trans rfl
theorem lr_934 : miL_law.2.2.2[934]? = some (1455, .invokevirtual 168, 3) := (lg_18 34 (by decide)).trans rfl
theorem lr_935 : miL_law.2.2.2[935]? = some (1458, .if_icmp .eq 61, 3) := (lg_18 35 (by decide)).trans rfl
theorem lr_936 : miL_law.2.2.2[936]? = some (1461, .iconst 0, 1) := (lg_18 36 (by decide)).trans rfl
theorem lr_937 : miL_law.2.2.2[937]? = some (1462, .ireturn, 1) := (lg_18 37 (by decide)).trans rfl
theorem lr_938 : miL_law.2.2.2[938]? = some (1463, .aload_n 1, 1) := (lg_18 38 (by decide)).trans rfl
theorem lr_939 : miL_law.2.2.2[939]? = some (1464, .aload_n 0, 1) := (lg_18 39 (by decide)).trans rfl
theorem lr_940 : miL_law.2.2.2[940]? = some (1465, .iload 4, 2) := (lg_18 40 (by decide)).trans rfl
theorem lr_941 : miL_law.2.2.2[941]? = some (1467, .iconst 1, 1) := (lg_18 41 (by decide)).trans rfl
theorem lr_942 : miL_law.2.2.2[942]? = some (1468, .iadd, 1) := (lg_18 42 (by decide)).trans rfl
theorem lr_943 : miL_law.2.2.2[943]? = some (1469, .iaload, 1) := (lg_18 43 (by decide)).trans rfl
theorem lr_944 : miL_law.2.2.2[944]? = some (1470, .aload_n 3, 1) := (lg_18 44 (by decide)).trans rfl
theorem lr_945 : miL_law.2.2.2[945]? = some (1471, .invokestatic 169, 3) := (lg_18 45 (by decide)).trans rfl
theorem lr_946 : miL_law.2.2.2[946]? = some (1474, .istore 5, 2) := (lg_18 46 (by decide)).trans rfl
theorem lr_947 : miL_law.2.2.2[947]? = some (1476, .aload_n 2, 1) := (lg_18 47 (by decide)).trans rfl
theorem lr_948 : miL_law.2.2.2[948]? = some (1477, .aload_n 0, 1) := (lg_18 48 (by decide)).trans rfl
theorem lr_949 : miL_law.2.2.2[949]? = some (1478, .iload 4, 2) := (lg_18 49 (by decide)).trans rfl
theorem lr_950 : miL_law.2.2.2[950]? = some (1480, .iconst 1, 1) := (lg_19 0 (by decide)).trans rfl
theorem lr_951 : miL_law.2.2.2[951]? = some (1481, .iadd, 1) := (lg_19 1 (by decide)).trans rfl
theorem lr_952 : miL_law.2.2.2[952]? = some (1482, .iaload, 1) := (lg_19 2 (by decide)).trans rfl
theorem lr_953 : miL_law.2.2.2[953]? = some (1483, .invokevirtual 174, 3) := (lg_19 3 (by decide)).trans rfl
theorem lr_954 : miL_law.2.2.2[954]? = some (1486, .istore 6, 2) := (lg_19 4 (by decide)).trans rfl
theorem lr_955 : miL_law.2.2.2[955]? = some (1488, .aload_n 2, 1) := (lg_19 5 (by decide)).trans rfl
theorem lr_956 : miL_law.2.2.2[956]? = some (1489, .invokevirtual 175, 3) := (lg_19 6 (by decide)).trans rfl
theorem lr_957 : miL_law.2.2.2[957]? = some (1492, .iload 5, 2) := (lg_19 7 (by decide)).trans rfl
theorem lr_958 : miL_law.2.2.2[958]? = some (1494, .if_icmp .eq 5, 3) := (lg_19 8 (by decide)).trans rfl
theorem lr_959 : miL_law.2.2.2[959]? = some (1497, .iconst 0, 1) := (lg_19 9 (by decide)).trans rfl
theorem lr_960 : miL_law.2.2.2[960]? = some (1498, .ireturn, 1) := (lg_19 10 (by decide)).trans rfl
theorem lr_961 : miL_law.2.2.2[961]? = some (1499, .iload 5, 2) := (lg_19 11 (by decide)).trans rfl
theorem lr_962 : miL_law.2.2.2[962]? = some (1501, .ifCond .ne 15, 3) := (lg_19 12 (by decide)).trans rfl
theorem lr_963 : miL_law.2.2.2[963]? = some (1504, .aload_n 3, 1) := (lg_19 13 (by decide)).trans rfl
theorem lr_964 : miL_law.2.2.2[964]? = some (1505, .iconst 0, 1) := (lg_19 14 (by decide)).trans rfl
theorem lr_965 : miL_law.2.2.2[965]? = some (1506, .laload, 1) := (lg_19 15 (by decide)).trans rfl
theorem lr_966 : miL_law.2.2.2[966]? = some (1507, .iload 6, 2) := (lg_19 16 (by decide)).trans rfl
theorem lr_967 : miL_law.2.2.2[967]? = some (1509, .i2l, 1) := (lg_19 17 (by decide)).trans rfl
theorem lr_968 : miL_law.2.2.2[968]? = some (1510, .lcmp, 1) := (lg_19 18 (by decide)).trans rfl
theorem lr_969 : miL_law.2.2.2[969]? = some (1511, .ifCond .eq 5, 3) := (lg_19 19 (by decide)).trans rfl
theorem lr_970 : miL_law.2.2.2[970]? = some (1514, .iconst 0, 1) := (lg_19 20 (by decide)).trans rfl
theorem lr_971 : miL_law.2.2.2[971]? = some (1515, .ireturn, 1) := (lg_19 21 (by decide)).trans rfl
theorem lr_972 : miL_law.2.2.2[972]? = some (1516, .goto 3, 3) := (lg_19 22 (by decide)).trans rfl
theorem lr_973 : miL_law.2.2.2[973]? = some (1519, .iinc 4 6, 3) := (lg_19 23 (by decide)).trans rfl
theorem lr_974 : miL_law.2.2.2[974]? = some (1522, .goto (-1499), 3) := (lg_19 24 (by decide)).trans rfl
theorem lr_975 : miL_law.2.2.2[975]? = some (1525, .iconst 1, 1) := (lg_19 25 (by decide)).trans rfl
theorem lr_976 : miL_law.2.2.2[976]? = some (1526, .ireturn, 1) := (lg_19 26 (by decide)).trans rfl
