/-! CONSTRUCTORS of the class's own nested classes -/
set_option maxRecDepth 10000 in
theorem SK0_23 : ∀ i, i < 9 → SK0 (23 + 1 + i) = (13, 252, fun _ => none) := fun i hi => by
  match i, hi with
  | 0, _ => rfl
  | 1, _ => rfl
  | 2, _ => rfl
  | 3, _ => rfl
  | 4, _ => rfl
  | 5, _ => rfl
  | 6, _ => rfl
  | 7, _ => rfl
  | 8, _ => rfl
set_option maxRecDepth 10000 in
theorem cc_23 : ∀ i, i < 33 → 23 ≤ i → ∀ q, q < 60 → cc i q = if i = 23 ∧ q < 9 then some ((24 + q : Nat) : Int) else none := by decide +kernel
theorem JJ.multi {g0 g : Hp} (h : JJ 18 23 g0 g) : JJ 18 33 g0 (up2 (gM g 23 9) 18 7 ((23 : Nat) : Int)) := by
  refine h.sub (c := 18) (f := 7) (by decide) (by decide) (fun i q hi hn => ?_) (if_pos ⟨rfl, rfl⟩) (fun i q r h1 h2 h3 h4 => ?_) rfl (by decide +kernel)
  · rw [show up2 (gM g 23 9) 18 7 ((23 : Nat) : Int) i q = gM g 23 9 i q from if_neg hn]
    unfold gM
    rw [if_neg (by omega), if_neg (by omega)]
  · rw [show up2 (gM g 23 9) 18 7 ((23 : Nat) : Int) i q = gM g 23 9 i q from if_neg (by omega)]
    rw [cc_23 i h2 h1 q (cc_big h3)] at h3
    split at h3
    · rename_i c
      obtain ⟨rfl, c2⟩ := c
      have e := Option.some.inj h3
      unfold gM
      rw [if_pos rfl, if_pos c2, ← e]
    · cases h3
theorem JJ.tray41 {g : Hp} (hz : ∀ q, g 41 q = 0) : JJ 41 42 g (up2 g 41 0 (-1)) := by
  refine ⟨fun i q hi => if_neg (by omega), fun i q r h1 h2 h3 h4 => ?_⟩
  obtain rfl : i = 41 := by omega
  by_cases c : q = 0
  · subst c
    exact Option.some.inj (show some (-1) = some r from h3)
  · rw [show up2 g 41 0 (-1) 41 q = g 41 q from if_neg (by omega), hz q]
    have h5 := cc_big h3
    have h6 : ∀ q, q < 60 → q ≠ 0 → cc 41 q = none ∨ cc 41 q = some 42 := by decide +kernel
    rcases h6 q h5 c with e | e
    · rw [e] at h3; cases h3
    · rw [e] at h3; have := Option.some.inj h3; omega
theorem JJ.tray43 {g : Hp} (hz : ∀ q, g 43 q = 0) : JJ 43 44 g (up2 g 43 0 (-1)) := by
  refine ⟨fun i q hi => if_neg (by omega), fun i q r h1 h2 h3 h4 => ?_⟩
  obtain rfl : i = 43 := by omega
  by_cases c : q = 0
  · subst c
    exact Option.some.inj (show some (-1) = some r from h3)
  · rw [show up2 g 43 0 (-1) 43 q = g 43 q from if_neg (by omega), hz q]
    have h5 := cc_big h3
    have h6 : ∀ q, q < 60 → q ≠ 0 → cc 43 q = none ∨ cc 43 q = some 44 := by decide +kernel
    rcases h6 q h5 c with e | e
    · rw [e] at h3; cases h3
    · rw [e] at h3; have := Option.some.inj h3; omega
theorem JJ.tray45 {g : Hp} (hz : ∀ q, g 45 q = 0) : JJ 45 46 g (up2 g 45 0 (-1)) := by
  refine ⟨fun i q hi => if_neg (by omega), fun i q r h1 h2 h3 h4 => ?_⟩
  obtain rfl : i = 45 := by omega
  by_cases c : q = 0
  · subst c
    exact Option.some.inj (show some (-1) = some r from h3)
  · rw [show up2 g 45 0 (-1) 45 q = g 45 q from if_neg (by omega), hz q]
    have h5 := cc_big h3
    have h6 : ∀ q, q < 60 → q ≠ 0 → cc 45 q = none ∨ cc 45 q = some 46 := by decide +kernel
    rcases h6 q h5 c with e | e
    · rw [e] at h3; cases h3
    · rw [e] at h3; have := Option.some.inj h3; omega
theorem JJ.tray47 {g : Hp} (hz : ∀ q, g 47 q = 0) : JJ 47 48 g (up2 g 47 0 (-1)) := by
  refine ⟨fun i q hi => if_neg (by omega), fun i q r h1 h2 h3 h4 => ?_⟩
  obtain rfl : i = 47 := by omega
  by_cases c : q = 0
  · subst c
    exact Option.some.inj (show some (-1) = some r from h3)
  · rw [show up2 g 47 0 (-1) 47 q = g 47 q from if_neg (by omega), hz q]
    have h5 := cc_big h3
    have h6 : ∀ q, q < 60 → q ≠ 0 → cc 47 q = none ∨ cc 47 q = some 48 := by decide +kernel
    rcases h6 q h5 c with e | e
    · rw [e] at h3; cases h3
    · rw [e] at h3; have := Option.some.inj h3; omega
theorem JJ.tray49 {g : Hp} (hz : ∀ q, g 49 q = 0) : JJ 49 50 g (up2 g 49 0 (-1)) := by
  refine ⟨fun i q hi => if_neg (by omega), fun i q r h1 h2 h3 h4 => ?_⟩
  obtain rfl : i = 49 := by omega
  by_cases c : q = 0
  · subst c
    exact Option.some.inj (show some (-1) = some r from h3)
  · rw [show up2 g 49 0 (-1) 49 q = g 49 q from if_neg (by omega), hz q]
    have h5 := cc_big h3
    have h6 : ∀ q, q < 60 → q ≠ 0 → cc 49 q = none ∨ cc 49 q = some 50 := by decide +kernel
    rcases h6 q h5 c with e | e
    · rw [e] at h3; cases h3
    · rw [e] at h3; have := Option.some.inj h3; omega
theorem JJ.tray51 {g : Hp} (hz : ∀ q, g 51 q = 0) : JJ 51 52 g (up2 g 51 0 (-1)) := by
  refine ⟨fun i q hi => if_neg (by omega), fun i q r h1 h2 h3 h4 => ?_⟩
  obtain rfl : i = 51 := by omega
  by_cases c : q = 0
  · subst c
    exact Option.some.inj (show some (-1) = some r from h3)
  · rw [show up2 g 51 0 (-1) 51 q = g 51 q from if_neg (by omega), hz q]
    have h5 := cc_big h3
    have h6 : ∀ q, q < 60 → q ≠ 0 → cc 51 q = none ∨ cc 51 q = some 52 := by decide +kernel
    rcases h6 q h5 c with e | e
    · rw [e] at h3; cases h3
    · rw [e] at h3; have := Option.some.inj h3; omega
def naX1_init : MI := (miX1_init.1, miX1_init.2.1, (1, 60), miX1_init.2.2.2)
set_option maxHeartbeats 4000000 in
set_option maxRecDepth 4000 in
theorem ct4 {d : Nat} {g : Hp} {P : Pst} (hz : ∀ q, g 4 q = 0) (h : ∀ g' : Hp, JJ 4 6 g g' → P none 6 SK0 g') : Runs naX1_init (d + 1) [.ref 4] 5 SK0 g P := by
  refine Runs.of rfl rfl deX1_init (Nat.le_of_ble_eq_true rfl) ?_
  show V naX1_init (d + 1) 0 [(0, .ref 4)] [] 5 SK0 g 0 0 P
  have hJ := JJ.zero hz (by decide +kernel : ckz 4 = true)
  refine v_aload_n 0 0 rfl rfl rfl ?_
  refine v_objInit 1 rfl (tbG_in (List.mem_append_right _ (List.mem_of_getElem? (i := 39) (by decide +kernel))) rfl) (tbG_in (List.mem_append_right _ (List.mem_of_getElem? (i := 28) (by decide +kernel))) rfl) (tbG_in (List.mem_append_right _ (List.mem_of_getElem? (i := 29) (by decide +kernel))) rfl) (by decide) rfl ?_
  refine v_aload_n 2 0 rfl rfl rfl ?_
  refine v_bipush 3 rfl rfl ?_
  refine st_ac (t := 16) (N := 60) (a := 4) (f := 0) (ci := 1) (E := "MobileMaker$Part") 4 5 rfl rfl (tbG_in (List.mem_append_right _ (List.mem_of_getElem? (i := 40) (by decide +kernel))) rfl) (fun _ w => w.2.2.1) (by decide) (fun _ => rfl) (fun _ => rfl) (by decide) fl1_11_1 (by decide) rfl rfl (by decide) rfl rfl (by decide) (by decide) (fun g0 e1 e2 => ?_)
  replace hJ := hJ.arr (by decide) (by decide) e1 e2 rfl (by decide +kernel) (by decide +kernel)
  clear e1 e2
  refine v_aload_n 6 0 rfl rfl rfl ?_
  refine v_iconst 7 rfl ?_
  refine v_putI 8 rfl fl1_17_1 (by decide) rfl (by decide) rfl rfl (by decide) ?_
  replace hJ := hJ.put (c := 4) (q := 1) (v := 0) (by decide) (cput (o := none) rfl (Or.inl rfl))
  refine v_aload_n 9 0 rfl rfl rfl ?_
  refine v_lconst (v := 0) 10 rfl rfl ?_
  refine v_putL 11 rfl fl1_21_1 (by decide) rfl (by decide) rfl rfl (by decide) ?_
  replace hJ := hJ.put (c := 4) (q := 2) (v := 0) (by decide) (cput (o := none) rfl (Or.inl rfl))
  refine v_ret (v := none) 12 rfl (by decide) (by decide) trivial rfl ?_
  exact h _ hJ
def naX5_init : MI := (miX5_init.1, miX5_init.2.1, (2, 16), miX5_init.2.2.2)
set_option maxHeartbeats 4000000 in
set_option maxRecDepth 4000 in
theorem ct6 {d : Nat} {g : Hp} {P : Pst} (hz : ∀ q, g 6 q = 0) (h : ∀ g' : Hp, JJ 6 9 g g' → P none 9 SK0 g') : Runs naX5_init (d + 1) [.ref 6] 7 SK0 g P := by
  refine Runs.of rfl rfl deX5_init (Nat.le_of_ble_eq_true rfl) ?_
  show V naX5_init (d + 1) 0 [(0, .ref 6)] [] 7 SK0 g 0 0 P
  have hJ := JJ.zero hz (by decide +kernel : ckz 6 = true)
  refine v_aload_n 0 0 rfl rfl rfl ?_
  refine v_objInit 1 rfl (tbG_in (List.mem_append_right _ (List.mem_of_getElem? (i := 58) (by decide +kernel))) rfl) (tbG_in (List.mem_append_right _ (List.mem_of_getElem? (i := 28) (by decide +kernel))) rfl) (tbG_in (List.mem_append_right _ (List.mem_of_getElem? (i := 29) (by decide +kernel))) rfl) (by decide) rfl ?_
  refine v_aload_n 2 0 rfl rfl rfl ?_
  refine v_bipush 3 rfl rfl ?_
  refine st_nc (t := 13) (N := 8) (a := 6) (f := 0) (ci := 4) 4 5 rfl rfl rfl (by decide) (fun _ => rfl) (fun _ _ h => h) ac13 (fun _ _ => rfl) (by decide) (by decide) fl5_9_4 (by decide) rfl rfl (by decide) rfl rfl (by decide) (by decide) (fun g0 e1 e2 => ?_)
  replace hJ := hJ.arr (by decide) (by decide) e1 e2 rfl (by decide +kernel) (by decide +kernel)
  clear e1 e2
  refine v_aload_n 6 0 rfl rfl rfl ?_
  refine v_bipush 7 rfl rfl ?_
  refine st_nc (t := 13) (N := 8) (a := 6) (f := 1) (ci := 4) 8 9 rfl rfl rfl (by decide) (fun _ => rfl) (fun _ _ h => h) ac13 (fun _ _ => rfl) (by decide) (by decide) fl5_15_4 (by decide) rfl rfl (by decide) rfl rfl (by decide) (by decide) (fun g1 e1 e2 => ?_)
  replace hJ := hJ.arr (by decide) (by decide) e1 e2 rfl (by decide +kernel) (by decide +kernel)
  clear e1 e2
  refine v_aload_n 10 0 rfl rfl rfl ?_
  refine v_iconst 11 rfl ?_
  refine v_putI 12 rfl fl5_18_4 (by decide) rfl (by decide) rfl rfl (by decide) ?_
  replace hJ := hJ.put (c := 6) (q := 2) (v := 0) (by decide) (cput (o := none) rfl (Or.inl rfl))
  refine v_ret (v := none) 13 rfl (by decide) (by decide) trivial rfl ?_
  exact h _ hJ
def naX7_init : MI := (miX7_init.1, miX7_init.2.1, (0, 0), miX7_init.2.2.2)
set_option maxHeartbeats 4000000 in
set_option maxRecDepth 4000 in
theorem ct9 {d : Nat} {g : Hp} {P : Pst} (hz : ∀ q, g 9 q = 0) (h : ∀ g' : Hp, JJ 9 10 g g' → P none 10 SK0 g') : Runs naX7_init (d + 1) [.ref 9] 10 SK0 g P := by
  refine Runs.of rfl rfl deX7_init (Nat.le_of_ble_eq_true rfl) ?_
  show V naX7_init (d + 1) 0 [(0, .ref 9)] [] 10 SK0 g 0 0 P
  have hJ := JJ.zero hz (by decide +kernel : ckz 9 = true)
  refine v_aload_n 0 0 rfl rfl rfl ?_
  refine v_objInit 1 rfl (tbG_in (List.mem_append_right _ (List.mem_of_getElem? (i := 75) (by decide +kernel))) rfl) (tbG_in (List.mem_append_right _ (List.mem_of_getElem? (i := 28) (by decide +kernel))) rfl) (tbG_in (List.mem_append_right _ (List.mem_of_getElem? (i := 29) (by decide +kernel))) rfl) (by decide) rfl ?_
  refine v_aload_n 2 0 rfl rfl rfl ?_
  refine v_iconst 3 rfl ?_
  refine v_putI 4 rfl fl7_7_6 (by decide) rfl (by decide) rfl rfl (by decide) ?_
  replace hJ := hJ.put (c := 9) (q := 0) (v := 0) (by decide) (cput (o := none) rfl (Or.inl rfl))
  refine v_aload_n 5 0 rfl rfl rfl ?_
  refine v_iconst 6 rfl ?_
  refine v_putI 7 rfl fl7_13_6 (by decide) rfl (by decide) rfl rfl (by decide) ?_
  replace hJ := hJ.put (c := 9) (q := 1) (v := 0) (by decide) (cput (o := none) rfl (Or.inl rfl))
  refine v_aload_n 8 0 rfl rfl rfl ?_
  refine v_iconst 9 rfl ?_
  refine v_putZ 10 rfl fl7_16_6 (by decide) rfl (by decide) rfl rfl (Or.inr rfl) ?_
  replace hJ := hJ.put (c := 9) (q := 2) (v := 1) (by decide) (cput (o := none) rfl (Or.inl rfl))
  refine v_ret (v := none) 11 rfl (by decide) (by decide) trivial rfl ?_
  exact h _ hJ
set_option maxHeartbeats 4000000 in
set_option maxRecDepth 4000 in
theorem ct10 {d : Nat} {g : Hp} {P : Pst} (hz : ∀ q, g 10 q = 0) (h : ∀ g' : Hp, JJ 10 11 g g' → P none 11 SK0 g') : Runs naX7_init (d + 1) [.ref 10] 11 SK0 g P := by
  refine Runs.of rfl rfl deX7_init (Nat.le_of_ble_eq_true rfl) ?_
  show V naX7_init (d + 1) 0 [(0, .ref 10)] [] 11 SK0 g 0 0 P
  have hJ := JJ.zero hz (by decide +kernel : ckz 10 = true)
  refine v_aload_n 0 0 rfl rfl rfl ?_
  refine v_objInit 1 rfl (tbG_in (List.mem_append_right _ (List.mem_of_getElem? (i := 75) (by decide +kernel))) rfl) (tbG_in (List.mem_append_right _ (List.mem_of_getElem? (i := 28) (by decide +kernel))) rfl) (tbG_in (List.mem_append_right _ (List.mem_of_getElem? (i := 29) (by decide +kernel))) rfl) (by decide) rfl ?_
  refine v_aload_n 2 0 rfl rfl rfl ?_
  refine v_iconst 3 rfl ?_
  refine v_putI 4 rfl fl7_7_6 (by decide) rfl (by decide) rfl rfl (by decide) ?_
  replace hJ := hJ.put (c := 10) (q := 0) (v := 0) (by decide) (cput (o := none) rfl (Or.inl rfl))
  refine v_aload_n 5 0 rfl rfl rfl ?_
  refine v_iconst 6 rfl ?_
  refine v_putI 7 rfl fl7_13_6 (by decide) rfl (by decide) rfl rfl (by decide) ?_
  replace hJ := hJ.put (c := 10) (q := 1) (v := 0) (by decide) (cput (o := none) rfl (Or.inl rfl))
  refine v_aload_n 8 0 rfl rfl rfl ?_
  refine v_iconst 9 rfl ?_
  refine v_putZ 10 rfl fl7_16_6 (by decide) rfl (by decide) rfl rfl (Or.inr rfl) ?_
  replace hJ := hJ.put (c := 10) (q := 2) (v := 1) (by decide) (cput (o := none) rfl (Or.inl rfl))
  refine v_ret (v := none) 11 rfl (by decide) (by decide) trivial rfl ?_
  exact h _ hJ
def naX0_init : MI := (miX0_init.1, miX0_init.2.1, (6, 1430), miX0_init.2.2.2)
set_option maxHeartbeats 4000000 in
set_option maxRecDepth 4000 in
theorem ct11 {d : Nat} {g : Hp} {P : Pst} (hz : ∀ q, g 11 q = 0) (h : ∀ g' : Hp, JJ 11 18 g g' → P none 18 SK0 g') : Runs naX0_init (d + 1) [.ref 11] 12 SK0 g P := by
  refine Runs.of rfl rfl deX0_init (Nat.le_of_ble_eq_true rfl) ?_
  show V naX0_init (d + 1) 0 [(0, .ref 11)] [] 12 SK0 g 0 0 P
  have hJ := JJ.zero hz (by decide +kernel : ckz 11 = true)
  refine v_aload_n 0 0 rfl rfl rfl ?_
  refine v_objInit 1 rfl (tbG_in (List.mem_append_right _ (List.mem_of_getElem? (i := 93) (by decide +kernel))) rfl) (tbG_in (List.mem_append_right _ (List.mem_of_getElem? (i := 28) (by decide +kernel))) rfl) (tbG_in (List.mem_append_right _ (List.mem_of_getElem? (i := 29) (by decide +kernel))) rfl) (by decide) rfl ?_
  refine v_aload_n 2 0 rfl rfl rfl ?_
  refine v_bipush 3 rfl rfl ?_
  refine st_ac (t := 16) (N := 60) (a := 11) (f := 0) (ci := 0) (E := "MobileMaker$Part") 4 5 rfl rfl (tbG_in (List.mem_append_right _ (List.mem_of_getElem? (i := 94) (by decide +kernel))) rfl) (fun _ w => w.2.2.1) (by decide) (fun _ => rfl) (fun _ => rfl) (by decide) fl0_11_0 (by decide) rfl rfl (by decide) rfl rfl (by decide) (by decide) (fun g0 e1 e2 => ?_)
  replace hJ := hJ.arr (by decide) (by decide) e1 e2 rfl (by decide +kernel) (by decide +kernel)
  clear e1 e2
  refine v_aload_n 6 0 rfl rfl rfl ?_
  refine v_bipush 7 rfl rfl ?_
  refine st_nc (t := 13) (N := 60) (a := 11) (f := 1) (ci := 0) 8 9 rfl rfl rfl (by decide) (fun _ => rfl) (fun _ _ h => h) ac13 (fun _ _ => rfl) (by decide) (by decide) fl0_17_0 (by decide) rfl rfl (by decide) rfl rfl (by decide) (by decide) (fun g1 e1 e2 => ?_)
  replace hJ := hJ.arr (by decide) (by decide) e1 e2 rfl (by decide +kernel) (by decide +kernel)
  clear e1 e2
  refine v_aload_n 10 0 rfl rfl rfl ?_
  refine v_iconst 11 rfl ?_
  refine v_putI 12 rfl fl0_21_0 (by decide) rfl (by decide) rfl rfl (by decide) ?_
  replace hJ := hJ.put (c := 11) (q := 2) (v := 0) (by decide) (cput (o := none) rfl (Or.inl rfl))
  refine v_aload_n 13 0 rfl rfl rfl ?_
  refine v_iconst 14 rfl ?_
  refine st_nc (t := 14) (N := 5) (a := 11) (f := 3) (ci := 0) 15 16 rfl rfl rfl (by decide) (fun _ => rfl) (fun _ _ h => h) ac14 (fun _ _ => rfl) (by decide) (by decide) fl0_25_0 (by decide) rfl rfl (by decide) rfl rfl (by decide) (by decide) (fun g2 e1 e2 => ?_)
  replace hJ := hJ.arr (by decide) (by decide) e1 e2 rfl (by decide +kernel) (by decide +kernel)
  clear e1 e2
  refine v_aload_n 17 0 rfl rfl rfl ?_
  refine v_iconst 18 rfl ?_
  refine v_putI 19 rfl fl0_29_0 (by decide) rfl (by decide) rfl rfl (by decide) ?_
  replace hJ := hJ.put (c := 11) (q := 4) (v := 0) (by decide) (cput (o := none) rfl (Or.inl rfl))
  refine v_aload_n 20 0 rfl rfl rfl ?_
  refine v_sipush 21 rfl rfl ?_
  refine st_nc (t := 14) (N := 435) (a := 11) (f := 5) (ci := 0) 22 23 rfl rfl rfl (by decide) (fun _ => rfl) (fun _ _ h => h) ac14 (fun _ _ => rfl) (by decide) (by decide) fl0_32_0 (by decide) rfl rfl (by decide) rfl rfl (by decide) (by decide) (fun g3 e1 e2 => ?_)
  replace hJ := hJ.arr (by decide) (by decide) e1 e2 rfl (by decide +kernel) (by decide +kernel)
  clear e1 e2
  refine v_aload_n 24 0 rfl rfl rfl ?_
  refine v_sipush 25 rfl rfl ?_
  refine st_nc (t := 14) (N := 435) (a := 11) (f := 6) (ci := 0) 26 27 rfl rfl rfl (by decide) (fun _ => rfl) (fun _ _ h => h) ac14 (fun _ _ => rfl) (by decide) (by decide) fl0_35_0 (by decide) rfl rfl (by decide) rfl rfl (by decide) (by decide) (fun g4 e1 e2 => ?_)
  replace hJ := hJ.arr (by decide) (by decide) e1 e2 rfl (by decide +kernel) (by decide +kernel)
  clear e1 e2
  refine v_aload_n 28 0 rfl rfl rfl ?_
  refine v_sipush 29 rfl rfl ?_
  refine st_nc (t := 13) (N := 435) (a := 11) (f := 7) (ci := 0) 30 31 rfl rfl rfl (by decide) (fun _ => rfl) (fun _ _ h => h) ac13 (fun _ _ => rfl) (by decide) (by decide) fl0_38_0 (by decide) rfl rfl (by decide) rfl rfl (by decide) (by decide) (fun g5 e1 e2 => ?_)
  replace hJ := hJ.arr (by decide) (by decide) e1 e2 rfl (by decide +kernel) (by decide +kernel)
  clear e1 e2
  refine v_aload_n 32 0 rfl rfl rfl ?_
  refine v_iconst 33 rfl ?_
  refine v_putI 34 rfl fl0_41_0 (by decide) rfl (by decide) rfl rfl (by decide) ?_
  replace hJ := hJ.put (c := 11) (q := 8) (v := 0) (by decide) (cput (o := none) rfl (Or.inl rfl))
  refine v_aload_n 35 0 rfl rfl rfl ?_
  refine v_iconst 36 rfl ?_
  refine v_putI 37 rfl fl0_44_0 (by decide) rfl (by decide) rfl rfl (by decide) ?_
  replace hJ := hJ.put (c := 11) (q := 9) (v := 0) (by decide) (cput (o := none) rfl (Or.inl rfl))
  refine v_aload_n 38 0 rfl rfl rfl ?_
  refine v_iconst 39 rfl ?_
  refine v_putI 40 rfl fl0_47_0 (by decide) rfl (by decide) rfl rfl (by decide) ?_
  replace hJ := hJ.put (c := 11) (q := 10) (v := 0) (by decide) (cput (o := none) rfl (Or.inl rfl))
  refine v_ret (v := none) 41 rfl (by decide) (by decide) trivial rfl ?_
  exact h _ hJ
def naX3_init : MI := (miX3_init.1, miX3_init.2.1, (17, 6401), miX3_init.2.2.2)
set_option maxHeartbeats 4000000 in
set_option maxRecDepth 4000 in
theorem ct18 {d : Nat} {g : Hp} {P : Pst} (hz : ∀ q, g 18 q = 0) (h : ∀ g' : Hp, JJ 18 36 g g' → P none 36 SK0 g') : Runs naX3_init (d + 1) [.ref 18] 19 SK0 g P := by
  refine Runs.of rfl rfl deX3_init (Nat.le_of_ble_eq_true rfl) ?_
  show V naX3_init (d + 1) 0 [(0, .ref 18)] [] 19 SK0 g 0 0 P
  have hJ := JJ.zero hz (by decide +kernel : ckz 18 = true)
  refine v_aload_n 0 0 rfl rfl rfl ?_
  refine v_objInit 1 rfl (tbG_in (List.mem_append_right _ (List.mem_of_getElem? (i := 135) (by decide +kernel))) rfl) (tbG_in (List.mem_append_right _ (List.mem_of_getElem? (i := 28) (by decide +kernel))) rfl) (tbG_in (List.mem_append_right _ (List.mem_of_getElem? (i := 29) (by decide +kernel))) rfl) (by decide) rfl ?_
  refine v_aload_n 2 0 rfl rfl rfl ?_
  refine v_bipush 3 rfl rfl ?_
  refine st_nc (t := 13) (N := 10) (a := 18) (f := 0) (ci := 2) 4 5 rfl rfl rfl (by decide) (fun _ => rfl) (fun _ _ h => h) ac13 (fun _ _ => rfl) (by decide) (by decide) fl3_9_2 (by decide) rfl rfl (by decide) rfl rfl (by decide) (by decide) (fun g0 e1 e2 => ?_)
  replace hJ := hJ.arr (by decide) (by decide) e1 e2 rfl (by decide +kernel) (by decide +kernel)
  clear e1 e2
  refine v_aload_n 6 0 rfl rfl rfl ?_
  refine v_iconst 7 rfl ?_
  refine v_putI 8 rfl fl3_15_2 (by decide) rfl (by decide) rfl rfl (by decide) ?_
  replace hJ := hJ.put (c := 18) (q := 1) (v := 0) (by decide) (cput (o := none) rfl (Or.inl rfl))
  refine v_aload_n 9 0 rfl rfl rfl ?_
  refine v_bipush 10 rfl rfl ?_
  refine st_nc (t := 13) (N := 9) (a := 18) (f := 2) (ci := 2) 11 12 rfl rfl rfl (by decide) (fun _ => rfl) (fun _ _ h => h) ac13 (fun _ _ => rfl) (by decide) (by decide) fl3_19_2 (by decide) rfl rfl (by decide) rfl rfl (by decide) (by decide) (fun g1 e1 e2 => ?_)
  replace hJ := hJ.arr (by decide) (by decide) e1 e2 rfl (by decide +kernel) (by decide +kernel)
  clear e1 e2
  refine v_aload_n 13 0 rfl rfl rfl ?_
  refine v_iconst 14 rfl ?_
  refine v_putI 15 rfl fl3_22_2 (by decide) rfl (by decide) rfl rfl (by decide) ?_
  replace hJ := hJ.put (c := 18) (q := 3) (v := 0) (by decide) (cput (o := none) rfl (Or.inl rfl))
  refine v_aload_n 16 0 rfl rfl rfl ?_
  refine v_iconst 17 rfl ?_
  refine v_putZ 18 rfl fl3_25_2 (by decide) rfl (by decide) rfl rfl (Or.inr rfl) ?_
  replace hJ := hJ.put (c := 18) (q := 4) (v := 1) (by decide) (cput (o := none) rfl (Or.inl rfl))
  refine v_aload_n 19 0 rfl rfl rfl ?_
  refine v_sipush 20 rfl rfl ?_
  refine st_nc (t := 13) (N := 1024) (a := 18) (f := 5) (ci := 2) 21 22 rfl rfl rfl (by decide) (fun _ => rfl) (fun _ _ h => h) ac13 (fun _ _ => rfl) (by decide) (by decide) fl3_29_2 (by decide) rfl rfl (by decide) rfl rfl (by decide) (by decide) (fun g2 e1 e2 => ?_)
  replace hJ := hJ.arr (by decide) (by decide) e1 e2 rfl (by decide +kernel) (by decide +kernel)
  clear e1 e2
  refine v_aload_n 23 0 rfl rfl rfl ?_
  refine v_sipush 24 rfl rfl ?_
  refine st_nc (t := 13) (N := 1024) (a := 18) (f := 6) (ci := 2) 25 26 rfl rfl rfl (by decide) (fun _ => rfl) (fun _ _ h => h) ac13 (fun _ _ => rfl) (by decide) (by decide) fl3_32_2 (by decide) rfl rfl (by decide) rfl rfl (by decide) (by decide) (fun g3 e1 e2 => ?_)
  replace hJ := hJ.arr (by decide) (by decide) e1 e2 rfl (by decide +kernel) (by decide +kernel)
  clear e1 e2
  refine v_aload_n 27 0 rfl rfl rfl ?_
  refine v_bipush 28 rfl rfl ?_
  refine v_sipush 29 rfl rfl ?_
  refine v_mna (N := 9) (K := 252) (S' := SK0) 30 rfl (tbG_in (List.mem_append_right _ (List.mem_of_getElem? (i := 136) (by decide +kernel))) rfl) ac13 (fun _ _ h => h) (fun _ _ h => h) (by decide) (by decide) (by decide) (fun _ _ => rfl) rfl (fun i hi => SK0_23 i hi) (by decide) (by decide) ?_
  refine v_putFA (r := 23) 31 rfl fl3_37_2 (by decide) rfl (by decide) rfl rfl rfl ?_
  replace hJ := JJ.multi hJ
  generalize up2 (gM _ 23 9) 18 7 ((23 : Nat) : Int) = g4 at hJ ⊢
  refine v_aload_n 32 0 rfl rfl rfl ?_
  refine v_bipush 33 rfl rfl ?_
  refine st_nc (t := 13) (N := 9) (a := 18) (f := 8) (ci := 2) 34 35 rfl rfl rfl (by decide) (fun _ => rfl) (fun _ _ h => h) ac13 (fun _ _ => rfl) (by decide) (by decide) fl3_40_2 (by decide) rfl rfl (by decide) rfl rfl (by decide) (by decide) (fun g5 e1 e2 => ?_)
  replace hJ := hJ.arr (by decide) (by decide) e1 e2 rfl (by decide +kernel) (by decide +kernel)
  clear e1 e2
  refine v_aload_n 36 0 rfl rfl rfl ?_
  refine v_sipush 37 rfl rfl ?_
  refine st_nc (t := 13) (N := 1024) (a := 18) (f := 9) (ci := 2) 38 39 rfl rfl rfl (by decide) (fun _ => rfl) (fun _ _ h => h) ac13 (fun _ _ => rfl) (by decide) (by decide) fl3_43_2 (by decide) rfl rfl (by decide) rfl rfl (by decide) (by decide) (fun g6 e1 e2 => ?_)
  replace hJ := hJ.arr (by decide) (by decide) e1 e2 rfl (by decide +kernel) (by decide +kernel)
  clear e1 e2
  refine v_aload_n 40 0 rfl rfl rfl ?_
  refine v_sipush 41 rfl rfl ?_
  refine st_nc (t := 13) (N := 1024) (a := 18) (f := 10) (ci := 2) 42 43 rfl rfl rfl (by decide) (fun _ => rfl) (fun _ _ h => h) ac13 (fun _ _ => rfl) (by decide) (by decide) fl3_46_2 (by decide) rfl rfl (by decide) rfl rfl (by decide) (by decide) (fun g7 e1 e2 => ?_)
  replace hJ := hJ.arr (by decide) (by decide) e1 e2 rfl (by decide +kernel) (by decide +kernel)
  clear e1 e2
  refine v_ret (v := none) 44 rfl (by decide) (by decide) trivial rfl ?_
  exact h _ hJ
def naX8_init : MI := (miX8_init.1, miX8_init.2.1, (3, 720), miX8_init.2.2.2)
set_option maxHeartbeats 4000000 in
set_option maxRecDepth 4000 in
theorem ct37 {d : Nat} {g : Hp} {P : Pst} (hz : ∀ q, g 37 q = 0) (h : ∀ g' : Hp, JJ 37 41 g g' → P none 41 SK0 g') : Runs naX8_init (d + 1) [.ref 37] 38 SK0 g P := by
  refine Runs.of rfl rfl deX8_init (Nat.le_of_ble_eq_true rfl) ?_
  show V naX8_init (d + 1) 0 [(0, .ref 37)] [] 38 SK0 g 0 0 P
  have hJ := JJ.zero hz (by decide +kernel : ckz 37 = true)
  refine v_aload_n 0 0 rfl rfl rfl ?_
  refine v_objInit 1 rfl (tbG_in (List.mem_append_right _ (List.mem_of_getElem? (i := 177) (by decide +kernel))) rfl) (tbG_in (List.mem_append_right _ (List.mem_of_getElem? (i := 28) (by decide +kernel))) rfl) (tbG_in (List.mem_append_right _ (List.mem_of_getElem? (i := 29) (by decide +kernel))) rfl) (by decide) rfl ?_
  refine v_aload_n 2 0 rfl rfl rfl ?_
  refine v_sipush 3 rfl rfl ?_
  refine st_nc (t := 12) (N := 600) (a := 37) (f := 0) (ci := 7) 4 5 rfl rfl rfl (by decide) (fun _ => rfl) (fun _ _ h => h) ac12 (fun _ _ => rfl) (by decide) (by decide) fl8_9_7 (by decide) rfl rfl (by decide) rfl rfl (by decide) (by decide) (fun g0 e1 e2 => ?_)
  replace hJ := hJ.arr (by decide) (by decide) e1 e2 rfl (by decide +kernel) (by decide +kernel)
  clear e1 e2
  refine v_aload_n 6 0 rfl rfl rfl ?_
  refine v_iconst 7 rfl ?_
  refine v_putI 8 rfl fl8_15_7 (by decide) rfl (by decide) rfl rfl (by decide) ?_
  replace hJ := hJ.put (c := 37) (q := 1) (v := 0) (by decide) (cput (o := some 0) rfl (Or.inr rfl))
  refine v_aload_n 9 0 rfl rfl rfl ?_
  refine v_bipush 10 rfl rfl ?_
  refine st_ac (t := 17) (N := 60) (a := 37) (f := 2) (ci := 7) (E := "MobileMaker$Rod") 11 12 rfl rfl (tbG_in (List.mem_append_right _ (List.mem_of_getElem? (i := 178) (by decide +kernel))) rfl) (fun _ w => w.2.2.2.1) (by decide) (fun _ => rfl) (fun _ => rfl) (by decide) fl8_21_7 (by decide) rfl rfl (by decide) rfl rfl (by decide) (by decide) (fun g1 e1 e2 => ?_)
  replace hJ := hJ.arr (by decide) (by decide) e1 e2 rfl (by decide +kernel) (by decide +kernel)
  clear e1 e2
  refine v_aload_n 13 0 rfl rfl rfl ?_
  refine v_bipush 14 rfl rfl ?_
  refine st_nc (t := 13) (N := 60) (a := 37) (f := 3) (ci := 7) 15 16 rfl rfl rfl (by decide) (fun _ => rfl) (fun _ _ h => h) ac13 (fun _ _ => rfl) (by decide) (by decide) fl8_25_7 (by decide) rfl rfl (by decide) rfl rfl (by decide) (by decide) (fun g2 e1 e2 => ?_)
  replace hJ := hJ.arr (by decide) (by decide) e1 e2 rfl (by decide +kernel) (by decide +kernel)
  clear e1 e2
  refine v_aload_n 17 0 rfl rfl rfl ?_
  refine v_iconst 18 rfl ?_
  refine v_putI 19 rfl fl8_29_7 (by decide) rfl (by decide) rfl rfl (by decide) ?_
  replace hJ := hJ.put (c := 37) (q := 4) (v := 0) (by decide) (cput (o := none) rfl (Or.inl rfl))
  refine v_ret (v := none) 20 rfl (by decide) (by decide) trivial rfl ?_
  exact h _ hJ
def naX9_init : MI := (miX9_init.1, miX9_init.2.1, (1, 16), miX9_init.2.2.2)
set_option maxHeartbeats 4000000 in
set_option maxRecDepth 4000 in
theorem ct41 {d : Nat} {g : Hp} {P : Pst} (hz : ∀ q, g 41 q = 0) (h : ∀ g' : Hp, JJ 41 43 g g' → P none 43 SK0 g') : Runs naX9_init (d + 1) [.ref 41] 42 SK0 g P := by
  refine Runs.of rfl rfl deX9_init (Nat.le_of_ble_eq_true rfl) ?_
  show V naX9_init (d + 1) 0 [(0, .ref 41)] [] 42 SK0 g 0 0 P
  skip
  refine v_aload_n 0 0 rfl rfl rfl ?_
  refine v_objInit 1 rfl (tbG_in (List.mem_append_right _ (List.mem_of_getElem? (i := 201) (by decide +kernel))) rfl) (tbG_in (List.mem_append_right _ (List.mem_of_getElem? (i := 28) (by decide +kernel))) rfl) (tbG_in (List.mem_append_right _ (List.mem_of_getElem? (i := 29) (by decide +kernel))) rfl) (by decide) rfl ?_
  refine v_aload_n 2 0 rfl rfl rfl ?_
  refine v_iconst 3 rfl ?_
  refine v_putI 4 rfl fl9_9_8 (by decide) rfl (by decide) rfl rfl (by decide) ?_
  have hJ := JJ.tray41 hz
  refine v_aload_n 5 0 rfl rfl rfl ?_
  refine v_iconst 6 rfl ?_
  refine v_putI 7 rfl fl9_15_8 (by decide) rfl (by decide) rfl rfl (by decide) ?_
  replace hJ := hJ.put (c := 41) (q := 1) (v := 0) (by decide) (cput (o := none) rfl (Or.inl rfl))
  refine v_aload_n 8 0 rfl rfl rfl ?_
  refine v_bipush 9 rfl rfl ?_
  refine st_nc (t := 14) (N := 16) (a := 41) (f := 2) (ci := 8) 10 11 rfl rfl rfl (by decide) (fun _ => rfl) (fun _ _ h => h) ac14 (fun _ _ => rfl) (by decide) (by decide) fl9_18_8 (by decide) rfl rfl (by decide) rfl rfl (by decide) (by decide) (fun g0 e1 e2 => ?_)
  replace hJ := hJ.arr (by decide) (by decide) e1 e2 rfl (by decide +kernel) (by decide +kernel)
  clear e1 e2
  refine v_ret (v := none) 12 rfl (by decide) (by decide) trivial rfl ?_
  exact h _ hJ
set_option maxHeartbeats 4000000 in
set_option maxRecDepth 4000 in
theorem ct43 {d : Nat} {g : Hp} {P : Pst} (hz : ∀ q, g 43 q = 0) (h : ∀ g' : Hp, JJ 43 45 g g' → P none 45 SK0 g') : Runs naX9_init (d + 1) [.ref 43] 44 SK0 g P := by
  refine Runs.of rfl rfl deX9_init (Nat.le_of_ble_eq_true rfl) ?_
  show V naX9_init (d + 1) 0 [(0, .ref 43)] [] 44 SK0 g 0 0 P
  skip
  refine v_aload_n 0 0 rfl rfl rfl ?_
  refine v_objInit 1 rfl (tbG_in (List.mem_append_right _ (List.mem_of_getElem? (i := 201) (by decide +kernel))) rfl) (tbG_in (List.mem_append_right _ (List.mem_of_getElem? (i := 28) (by decide +kernel))) rfl) (tbG_in (List.mem_append_right _ (List.mem_of_getElem? (i := 29) (by decide +kernel))) rfl) (by decide) rfl ?_
  refine v_aload_n 2 0 rfl rfl rfl ?_
  refine v_iconst 3 rfl ?_
  refine v_putI 4 rfl fl9_9_8 (by decide) rfl (by decide) rfl rfl (by decide) ?_
  have hJ := JJ.tray43 hz
  refine v_aload_n 5 0 rfl rfl rfl ?_
  refine v_iconst 6 rfl ?_
  refine v_putI 7 rfl fl9_15_8 (by decide) rfl (by decide) rfl rfl (by decide) ?_
  replace hJ := hJ.put (c := 43) (q := 1) (v := 0) (by decide) (cput (o := none) rfl (Or.inl rfl))
  refine v_aload_n 8 0 rfl rfl rfl ?_
  refine v_bipush 9 rfl rfl ?_
  refine st_nc (t := 14) (N := 16) (a := 43) (f := 2) (ci := 8) 10 11 rfl rfl rfl (by decide) (fun _ => rfl) (fun _ _ h => h) ac14 (fun _ _ => rfl) (by decide) (by decide) fl9_18_8 (by decide) rfl rfl (by decide) rfl rfl (by decide) (by decide) (fun g0 e1 e2 => ?_)
  replace hJ := hJ.arr (by decide) (by decide) e1 e2 rfl (by decide +kernel) (by decide +kernel)
  clear e1 e2
  refine v_ret (v := none) 12 rfl (by decide) (by decide) trivial rfl ?_
  exact h _ hJ
set_option maxHeartbeats 4000000 in
set_option maxRecDepth 4000 in
theorem ct45 {d : Nat} {g : Hp} {P : Pst} (hz : ∀ q, g 45 q = 0) (h : ∀ g' : Hp, JJ 45 47 g g' → P none 47 SK0 g') : Runs naX9_init (d + 1) [.ref 45] 46 SK0 g P := by
  refine Runs.of rfl rfl deX9_init (Nat.le_of_ble_eq_true rfl) ?_
  show V naX9_init (d + 1) 0 [(0, .ref 45)] [] 46 SK0 g 0 0 P
  skip
  refine v_aload_n 0 0 rfl rfl rfl ?_
  refine v_objInit 1 rfl (tbG_in (List.mem_append_right _ (List.mem_of_getElem? (i := 201) (by decide +kernel))) rfl) (tbG_in (List.mem_append_right _ (List.mem_of_getElem? (i := 28) (by decide +kernel))) rfl) (tbG_in (List.mem_append_right _ (List.mem_of_getElem? (i := 29) (by decide +kernel))) rfl) (by decide) rfl ?_
  refine v_aload_n 2 0 rfl rfl rfl ?_
  refine v_iconst 3 rfl ?_
  refine v_putI 4 rfl fl9_9_8 (by decide) rfl (by decide) rfl rfl (by decide) ?_
  have hJ := JJ.tray45 hz
  refine v_aload_n 5 0 rfl rfl rfl ?_
  refine v_iconst 6 rfl ?_
  refine v_putI 7 rfl fl9_15_8 (by decide) rfl (by decide) rfl rfl (by decide) ?_
  replace hJ := hJ.put (c := 45) (q := 1) (v := 0) (by decide) (cput (o := none) rfl (Or.inl rfl))
  refine v_aload_n 8 0 rfl rfl rfl ?_
  refine v_bipush 9 rfl rfl ?_
  refine st_nc (t := 14) (N := 16) (a := 45) (f := 2) (ci := 8) 10 11 rfl rfl rfl (by decide) (fun _ => rfl) (fun _ _ h => h) ac14 (fun _ _ => rfl) (by decide) (by decide) fl9_18_8 (by decide) rfl rfl (by decide) rfl rfl (by decide) (by decide) (fun g0 e1 e2 => ?_)
  replace hJ := hJ.arr (by decide) (by decide) e1 e2 rfl (by decide +kernel) (by decide +kernel)
  clear e1 e2
  refine v_ret (v := none) 12 rfl (by decide) (by decide) trivial rfl ?_
  exact h _ hJ
set_option maxHeartbeats 4000000 in
set_option maxRecDepth 4000 in
theorem ct47 {d : Nat} {g : Hp} {P : Pst} (hz : ∀ q, g 47 q = 0) (h : ∀ g' : Hp, JJ 47 49 g g' → P none 49 SK0 g') : Runs naX9_init (d + 1) [.ref 47] 48 SK0 g P := by
  refine Runs.of rfl rfl deX9_init (Nat.le_of_ble_eq_true rfl) ?_
  show V naX9_init (d + 1) 0 [(0, .ref 47)] [] 48 SK0 g 0 0 P
  skip
  refine v_aload_n 0 0 rfl rfl rfl ?_
  refine v_objInit 1 rfl (tbG_in (List.mem_append_right _ (List.mem_of_getElem? (i := 201) (by decide +kernel))) rfl) (tbG_in (List.mem_append_right _ (List.mem_of_getElem? (i := 28) (by decide +kernel))) rfl) (tbG_in (List.mem_append_right _ (List.mem_of_getElem? (i := 29) (by decide +kernel))) rfl) (by decide) rfl ?_
  refine v_aload_n 2 0 rfl rfl rfl ?_
  refine v_iconst 3 rfl ?_
  refine v_putI 4 rfl fl9_9_8 (by decide) rfl (by decide) rfl rfl (by decide) ?_
  have hJ := JJ.tray47 hz
  refine v_aload_n 5 0 rfl rfl rfl ?_
  refine v_iconst 6 rfl ?_
  refine v_putI 7 rfl fl9_15_8 (by decide) rfl (by decide) rfl rfl (by decide) ?_
  replace hJ := hJ.put (c := 47) (q := 1) (v := 0) (by decide) (cput (o := none) rfl (Or.inl rfl))
  refine v_aload_n 8 0 rfl rfl rfl ?_
  refine v_bipush 9 rfl rfl ?_
  refine st_nc (t := 14) (N := 16) (a := 47) (f := 2) (ci := 8) 10 11 rfl rfl rfl (by decide) (fun _ => rfl) (fun _ _ h => h) ac14 (fun _ _ => rfl) (by decide) (by decide) fl9_18_8 (by decide) rfl rfl (by decide) rfl rfl (by decide) (by decide) (fun g0 e1 e2 => ?_)
  replace hJ := hJ.arr (by decide) (by decide) e1 e2 rfl (by decide +kernel) (by decide +kernel)
  clear e1 e2
  refine v_ret (v := none) 12 rfl (by decide) (by decide) trivial rfl ?_
  exact h _ hJ
set_option maxHeartbeats 4000000 in
set_option maxRecDepth 4000 in
theorem ct49 {d : Nat} {g : Hp} {P : Pst} (hz : ∀ q, g 49 q = 0) (h : ∀ g' : Hp, JJ 49 51 g g' → P none 51 SK0 g') : Runs naX9_init (d + 1) [.ref 49] 50 SK0 g P := by
  refine Runs.of rfl rfl deX9_init (Nat.le_of_ble_eq_true rfl) ?_
  show V naX9_init (d + 1) 0 [(0, .ref 49)] [] 50 SK0 g 0 0 P
  skip
  refine v_aload_n 0 0 rfl rfl rfl ?_
  refine v_objInit 1 rfl (tbG_in (List.mem_append_right _ (List.mem_of_getElem? (i := 201) (by decide +kernel))) rfl) (tbG_in (List.mem_append_right _ (List.mem_of_getElem? (i := 28) (by decide +kernel))) rfl) (tbG_in (List.mem_append_right _ (List.mem_of_getElem? (i := 29) (by decide +kernel))) rfl) (by decide) rfl ?_
  refine v_aload_n 2 0 rfl rfl rfl ?_
  refine v_iconst 3 rfl ?_
  refine v_putI 4 rfl fl9_9_8 (by decide) rfl (by decide) rfl rfl (by decide) ?_
  have hJ := JJ.tray49 hz
  refine v_aload_n 5 0 rfl rfl rfl ?_
  refine v_iconst 6 rfl ?_
  refine v_putI 7 rfl fl9_15_8 (by decide) rfl (by decide) rfl rfl (by decide) ?_
  replace hJ := hJ.put (c := 49) (q := 1) (v := 0) (by decide) (cput (o := none) rfl (Or.inl rfl))
  refine v_aload_n 8 0 rfl rfl rfl ?_
  refine v_bipush 9 rfl rfl ?_
  refine st_nc (t := 14) (N := 16) (a := 49) (f := 2) (ci := 8) 10 11 rfl rfl rfl (by decide) (fun _ => rfl) (fun _ _ h => h) ac14 (fun _ _ => rfl) (by decide) (by decide) fl9_18_8 (by decide) rfl rfl (by decide) rfl rfl (by decide) (by decide) (fun g0 e1 e2 => ?_)
  replace hJ := hJ.arr (by decide) (by decide) e1 e2 rfl (by decide +kernel) (by decide +kernel)
  clear e1 e2
  refine v_ret (v := none) 12 rfl (by decide) (by decide) trivial rfl ?_
  exact h _ hJ
set_option maxHeartbeats 4000000 in
set_option maxRecDepth 4000 in
theorem ct51 {d : Nat} {g : Hp} {P : Pst} (hz : ∀ q, g 51 q = 0) (h : ∀ g' : Hp, JJ 51 53 g g' → P none 53 SK0 g') : Runs naX9_init (d + 1) [.ref 51] 52 SK0 g P := by
  refine Runs.of rfl rfl deX9_init (Nat.le_of_ble_eq_true rfl) ?_
  show V naX9_init (d + 1) 0 [(0, .ref 51)] [] 52 SK0 g 0 0 P
  skip
  refine v_aload_n 0 0 rfl rfl rfl ?_
  refine v_objInit 1 rfl (tbG_in (List.mem_append_right _ (List.mem_of_getElem? (i := 201) (by decide +kernel))) rfl) (tbG_in (List.mem_append_right _ (List.mem_of_getElem? (i := 28) (by decide +kernel))) rfl) (tbG_in (List.mem_append_right _ (List.mem_of_getElem? (i := 29) (by decide +kernel))) rfl) (by decide) rfl ?_
  refine v_aload_n 2 0 rfl rfl rfl ?_
  refine v_iconst 3 rfl ?_
  refine v_putI 4 rfl fl9_9_8 (by decide) rfl (by decide) rfl rfl (by decide) ?_
  have hJ := JJ.tray51 hz
  refine v_aload_n 5 0 rfl rfl rfl ?_
  refine v_iconst 6 rfl ?_
  refine v_putI 7 rfl fl9_15_8 (by decide) rfl (by decide) rfl rfl (by decide) ?_
  replace hJ := hJ.put (c := 51) (q := 1) (v := 0) (by decide) (cput (o := none) rfl (Or.inl rfl))
  refine v_aload_n 8 0 rfl rfl rfl ?_
  refine v_bipush 9 rfl rfl ?_
  refine st_nc (t := 14) (N := 16) (a := 51) (f := 2) (ci := 8) 10 11 rfl rfl rfl (by decide) (fun _ => rfl) (fun _ _ h => h) ac14 (fun _ _ => rfl) (by decide) (by decide) fl9_18_8 (by decide) rfl rfl (by decide) rfl rfl (by decide) (by decide) (fun g0 e1 e2 => ?_)
  replace hJ := hJ.arr (by decide) (by decide) e1 e2 rfl (by decide +kernel) (by decide +kernel)
  clear e1 e2
  refine v_ret (v := none) 12 rfl (by decide) (by decide) trivial rfl ?_
  exact h _ hJ
