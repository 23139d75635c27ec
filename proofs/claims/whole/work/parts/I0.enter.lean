/-! THE LAW: its entry -/
theorem nwL_8 : NW RL 8 10 := ⟨RX11, TX11, 13, tyX11, rfl, rfl, kf10, tyX11_ok, tbG_in (List.mem_append_right _ (List.mem_of_getElem? (i := 22) (by decide +kernel))) rfl, tbG_in (List.mem_append_right _ (List.mem_of_getElem? (i := 23) (by decide +kernel))) rfl, tbG_in (List.mem_append_right _ (List.mem_of_getElem? (i := 1) (by decide +kernel))) rfl, by decide⟩
theorem nwL_16 : NW RL 16 11 := ⟨RX12, TX12, 58, tyX12, rfl, rfl, kf11, tyX12_ok, tbG_in (List.mem_append_right _ (List.mem_of_getElem? (i := 1121) (by decide +kernel))) rfl, tbG_in (List.mem_append_right _ (List.mem_of_getElem? (i := 1122) (by decide +kernel))) rfl, tbG_in (List.mem_append_right _ (List.mem_of_getElem? (i := 9) (by decide +kernel))) rfl, by decide⟩
theorem liL_15 : LkI miL_law naX11_init 15 0 := ⟨⟨⟨tbG_in (List.mem_append_right _ (List.mem_of_getElem? (i := 26) (by decide +kernel))) rfl, tbG_in (List.mem_append_right _ (List.mem_of_getElem? (i := 1) (by decide +kernel))) rfl, tbG_in (List.mem_append_right _ (List.mem_of_getElem? (i := 24) (by decide +kernel))) rfl⟩, ⟨by decide +kernel, by decide +kernel, by decide +kernel⟩, by decide⟩, rfl, tbG_in (List.mem_append_right _ (List.mem_of_getElem? (i := 25) (by decide +kernel))) rfl⟩
theorem liL_18 : LkI miL_law naX12_init 18 0 := ⟨⟨⟨tbG_in (List.mem_append_right _ (List.mem_of_getElem? (i := 1125) (by decide +kernel))) rfl, tbG_in (List.mem_append_right _ (List.mem_of_getElem? (i := 9) (by decide +kernel))) rfl, tbG_in (List.mem_append_right _ (List.mem_of_getElem? (i := 1123) (by decide +kernel))) rfl⟩, ⟨by decide +kernel, by decide +kernel, by decide +kernel⟩, by decide⟩, rfl, tbG_in (List.mem_append_right _ (List.mem_of_getElem? (i := 1124) (by decide +kernel))) rfl⟩
abbrev z0 : Nat → Shp := fun _ => (0, 0, fun _ => none)
/-- what W0 holds fast, the table says -/
def cks : Bool := (List.range 100).all fun i => (List.range 60).all fun q => match (W0 z0 i).2.2 q with
  | none => true
  | some v => decide (1 ≤ i ∧ i < 99) && decide (cc i q = some v)
set_option maxRecDepth 100000 in
theorem cks_ok : cks = true := by decide +kernel
def ckr : Bool := (List.range 99).all fun i => (List.range 60).all fun q => match cc i q with
  | none => true
  | some r => decide (r < if i < 53 then 53 else 99)
set_option maxRecDepth 100000 in
theorem ckr_ok : ckr = true := by decide +kernel
set_option maxRecDepth 100000 in
theorem stab_len : ∀ i, i < 100 → (stab.getD i (0, 0, [])).2.2.length ≤ 60 := by decide +kernel
theorem stab_l : stab.length = 100 := rfl
theorem W0_z {dy : Nat → Shp} {i : Nat} (hi : i < 100) : W0 dy i = W0 z0 i := by
  have hl : i < stab.length := hi
  unfold W0
  rw [List.getElem?_eq_getElem hl]
theorem cst_q {l : List (Option Nat)} {q : Nat} {v : Int} (h : cst l q = some v) : q < l.length := by
  apply Classical.byContradiction
  intro c
  unfold cst at h
  rw [List.getElem?_eq_none (by omega)] at h
  cases h
theorem W0_q {dy : Nat → Shp} {i q : Nat} {v : Int} (hi : i < 100) (h : (W0 dy i).2.2 q = some v) : q < 60 := by
  have hl : i < stab.length := hi
  have h2 := stab_len i hi
  rw [List.getD_eq_getElem?_getD] at h2
  unfold W0 at h
  rw [List.getElem?_eq_getElem hl] at h h2
  have h3 : q < (stab[i]).2.2.length := cst_q h
  exact Nat.lt_of_lt_of_le h3 h2
theorem W0_cc {dy : Nat → Shp} {i q : Nat} {v : Int} (hi : i < 100) (h : (W0 dy i).2.2 q = some v) : (1 ≤ i ∧ i < 99) ∧ cc i q = some v := by
  have hq := W0_q hi h
  have hc : cks = true := cks_ok
  unfold cks at hc
  have := List.all_eq_true.mp (List.all_eq_true.mp hc i (List.mem_range.mpr hi)) q (List.mem_range.mpr hq)
  rw [W0_z hi] at h
  rw [h] at this
  simp only [Bool.and_eq_true, decide_eq_true_eq] at this
  exact this
theorem cc_r {i q : Nat} {r : Int} (hi : i < 99) (h : cc i q = some r) : r < if i < 53 then 53 else 99 := by
  have hc : ckr = true := ckr_ok
  unfold ckr at hc
  have := List.all_eq_true.mp (List.all_eq_true.mp hc i (List.mem_range.mpr hi)) q (List.mem_range.mpr (cc_big h))
  rw [h] at this
  exact of_decide_eq_true this
/-- the cells as the constructors left them -/
def En (g : Hp) : Prop := (∀ (i q : Nat) (r : Int), 1 ≤ i → i < 99 → cc i q = some r → g i q = r) ∧ ∀ t, t < 6 → g 55 t = -1
theorem En.of {g g1 g2 : Hp} (h1 : JJ 1 53 (upr g 1 (fun _ => 0)) g1) (h2 : JJ 53 99 (upr g1 53 (fun _ => 0)) g2) (h55 : ∀ t, t < 6 → g2 55 t = -1) : En (upr g2 99 (fun _ => 0)) ∧ ∀ q, upr g2 99 (fun _ => 0) 0 q = g 0 q := by
  refine ⟨⟨fun i q r c1 c2 c3 => ?_, fun t ht => ?_⟩, fun q => ?_⟩
  · have hr := cc_r c2 c3
    rw [upr_ne (by omega)]
    by_cases c : i < 53
    · rw [if_pos c] at hr
      rw [h2.1 i q c, upr_ne (by omega)]
      exact h1.2 i q r c1 c c3 hr
    · rw [if_neg c] at hr
      exact h2.2 i q r (by omega) c2 c3 hr
  · rw [upr_ne (by omega)]
    exact h55 t ht
  · rw [upr_ne (by omega), h2.1 0 q (by omega), upr_ne (by omega), h1.1 0 q (by omega), upr_ne (by omega)]
theorem En.inv {g : Hp} (h : En g) : Inv g := by
  have e5 : g 53 5 = 0 := h.1 53 5 0 (by decide) (by decide) rfl
  have e26 : g 53 26 = 0 := h.1 53 26 0 (by decide) (by decide) rfl
  have e29 : g 53 29 = 0 := h.1 53 29 0 (by decide) (by decide) rfl
  refine ⟨by omega, fun t ht => Or.inl (h.2 t ht), fun k hk => ?_, ⟨fun _ => 0, fun k hk => ?_⟩, ⟨by omega, fun i hi => ?_⟩, by omega⟩
  · exfalso; omega
  · exfalso; omega
  · exfalso; omega
theorem cc2 : ∀ t : Nat, t < 6 → cc 2 t = some ((41 + 2 * t : Nat) : Int) := by decide +kernel
theorem cc41 : ∀ t : Nat, t < 6 → cc (41 + 2 * t) 0 = some (-1) := by decide +kernel
theorem cc23 : ∀ p : Nat, p < 9 → cc 23 p = some ((24 + p : Nat) : Int) := by decide +kernel
theorem En.ca {dy : Nat → Shp} {g : Hp} (h : En g) : Ca 100 dy g g := by
  have e5 : g 53 5 = 0 := h.1 53 5 0 (by decide) (by decide) rfl
  have e0 : g 53 0 = 0 := h.1 53 0 0 (by decide) (by decide) rfl
  have e26 : g 53 26 = 0 := h.1 53 26 0 (by decide) (by decide) rfl
  have e29 : g 53 29 = 0 := h.1 53 29 0 (by decide) (by decide) rfl
  have e12 : g 1 2 = 0 := h.1 1 2 0 (by decide) (by decide) rfl
  have e13 : g 1 3 = 0 := h.1 1 3 0 (by decide) (by decide) rfl
  have e111 : g 1 11 = 0 := h.1 1 11 0 (by decide) (by decide) rfl
  have e371 : g 37 1 = 0 := h.1 37 1 0 (by decide) (by decide) rfl
  refine ⟨Nat.le_refl _, ⟨by omega, by omega⟩, fun t ht => ⟨h.1 2 t _ (by decide) (by decide) (cc2 t ht), Or.inl ⟨?_, h.1 (41 + 2 * t) 0 _ (by omega) (by omega) (cc41 t ht)⟩⟩, fun k hk => ?_, ⟨by omega, fun i hi => ?_⟩, by omega, fun i hi _ => ?_, fun p hp => h.1 23 p _ (by decide) (by decide) (cc23 p hp)⟩
  · rw [h.2 t ht]; decide
  · exfalso; omega
  · exfalso; omega
  · exfalso; omega
set_option maxHeartbeats 4000000 in
theorem lw_enter {A d : Nat} {N : Int} {w : Nat → Int} {P : Pst} {g : Hp} (hs : Sq A N w g) (hw : ∀ q, i3 (w q)) (hNN : 0 ≤ N ∧ N ≤ 3072) (hP : ∀ n S g, P (some (I_ 1)) n S g) : V miL_law (d + 123) 0 [(0, .retAddr A)] [] 1 SK0 g 0 0 P := by
  refine v_new (S' := SK0) (ci := 10) 0 lr_0 nwL_8 (by decide) (by decide) (fun _ _ => rfl) rfl (show 0 + 1 ≤ 601024 by decide) (show 0 + 13 ≤ 7293034 by decide) ?_
  show V miL_law (d + 123) 3 [(0, .retAddr A)] [.ref 1] 2 SK0 (upr g 1 (fun _ => 0)) 1 13 P
  refine v_dup 1 lr_1 (by decide) ?_
  refine v_callI (M' := naX11_init) (st := [.ref 1]) [] 2 lr_2 liL_15 rfl (by decide) rfl (show 1 + 51 ≤ 601024 by decide) (show 13 + 8860 ≤ 7293034 by decide) ?_
  refine ct1 (fun q => upr_s) (fun g1 h1 => ?_)
  show V miL_law (d + 123) 7 [(0, .retAddr A)] [.ref 1] 53 SK0 g1 52 8873 P
  refine v_astore_n (L' := [(0, .retAddr A), (1, .ref 1)]) 3 [1, 0] lr_3 rfl (by decide) rfl ?_
  refine v_new (S' := SK0) (ci := 11) 4 lr_4 nwL_16 (by decide) (by decide) (fun _ _ => rfl) rfl (show 52 + 1 ≤ 601024 by decide) (show 8873 + 58 ≤ 7293034 by decide) ?_
  show V miL_law (d + 123) 11 [(0, .retAddr A), (1, .ref 1)] [.ref 53] 54 SK0 (upr g1 53 (fun _ => 0)) 53 8931 P
  refine v_dup 5 lr_5 (by decide) ?_
  refine v_callI (M' := naX12_init) (st := [.ref 53]) [] 6 lr_6 liL_18 rfl (by decide) rfl (show 53 + 45 ≤ 601024 by decide) (show 8931 + 18212 ≤ 7293034 by decide) ?_
  refine ct53 (fun q => upr_s) (fun g2 h2 h55 => ?_)
  show V miL_law (d + 123) 15 [(0, .retAddr A), (1, .ref 1)] [.ref 53] 99 SK0 g2 98 27143 P
  refine v_astore_n (L' := [(0, .retAddr A), (1, .ref 1), (2, .ref 53)]) 7 [1, 2, 0] lr_7 rfl (by decide) rfl ?_
  refine v_iconst 8 lr_8 ?_
  refine v_newa (S' := SK0) (t := 14) (N := 1) 9 lr_9 rfl (by decide) (fun _ => rfl) (fun _ _ h => h) ac14 (fun _ _ => rfl) (by decide) (by decide) (by decide) (fun _ _ => rfl) rfl (show 98 + 1 ≤ 601024 by decide) (show 27143 + 1 ≤ 7293034 by decide) ?_
  obtain ⟨hE, h0⟩ := En.of h1 h2 h55
  show V miL_law (d + 123) 19 [(0, .retAddr A), (1, .ref 1), (2, .ref 53)] [.ref 99] 100 SK0 (upr g2 99 (fun _ => 0)) 99 27144 P
  generalize upr g2 99 (fun _ => 0) = g3 at hE h0
  refine v_astore_n (L' := [(0, .retAddr A), (1, .ref 1), (2, .ref 53), (3, .ref 99)]) 10 [1, 2, 3, 0] lr_10 rfl (by decide) rfl ?_
  refine v_iconst 11 lr_11 ?_
  refine v_istore (L' := LW A 0) 12 [1, 2, 3, 4, 0] lr_12 (by decide) rfl ?_
  refine v_same (S' := W0 z0) (g' := g3) (fun _ => rfl) (fun i _ hi => ⟨rfl, rfl, fun _ q => ?_, fun _ _ => rfl⟩) (fun h => h) ?_
  · show gv (W0 z0) g3 i q = g3 i q
    unfold gv
    cases e : (W0 z0 i).2.2 q with
    | none => rfl
    | some v =>
      obtain ⟨c1, c2⟩ := W0_cc hi e
      exact (hE.1 i q v c1.1 c1.2 c2).symm
  · exact lw_loop hw hNN hP 512 0 100 99 27144 z0 g3 (by omega) (by omega) (by decide) (by decide) hE.inv hE.ca (hs.to h0)
