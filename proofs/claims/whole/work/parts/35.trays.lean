set_option maxHeartbeats 8000000 in
set_option maxRecDepth 4000 in
theorem b2X9_put_5 {d n : Nat} {dy : Nat → Shp} {g : Hp} {P : Pst} {r0 : Nat} {x1 : Int} {x2 : Int} {xs0 : Int} (hn : 100 ≤ n) (h : (i3 xs0) ∧ ((xs0 = 0) → P none n (W0 dy) g) ∧ ((xs0 ≠ 0) → (Tr n (W0 dy) r0) ∧ (((g r0 0) ≠ 0) → (((g r0 0) ≠ 1) → (0 ≤ x1 ∧ x1 < 16) ∧ (i6 x2) ∧ P none n (W0 dy) (up2 g (r0 + 1) x1.toNat x2)) ∧ (((g r0 0) = 1) → (0 ≤ x1 ∧ x1 < 16) ∧ P none n (W0 dy) (up2 g (r0 + 1) x1.toNat (c2i x2)))) ∧ (((g r0 0) = 0) → (0 ≤ x1 ∧ x1 < 16) ∧ P none n (W0 dy) (up2 g (r0 + 1) x1.toNat (c2s x2))))) : V miX9_put (d + 1) 5 [(0, .ref r0), (1, I_ x1), (2, L_ x2)] [I_ xs0] n (W0 dy) g 0 0 P := by
  have c1 := h.1
  have h := h.2
  refine v_if_eq 3 rfl (tgt := 43) rfl c1 (fun q2 => ?_) (fun q2 => ?_)
  · have h := h.1 q2
    exact v_ret (v := none) 25 rfl (Nat.zero_le _) (Nat.zero_le _) trivial rfl h
  · have h := h.2 q2
    refine v_aload_n 4 0 rfl rfl rfl ?_
    have c3 := h.1
    have h := h.2
    refine v_gK 5 rfl fl9_18_8.r c3.1 c3.2.1 (by decide) rfl (r := r0 + 1) c3.2.2.2.2.1 ?_
    refine v_iload_n 6 1 rfl rfl rfl ?_
    refine v_aload_n 7 0 rfl rfl rfl ?_
    refine v_gI 8 rfl fl9_9_8.r c3.1 c3.2.1 (by decide) rfl c3.2.2.1 (x := g r0 0) rfl ?_
    refine v_rng fun w4 => ?_
    have p5 : i3 (g r0 0) := rI w4 (q := 0) c3.1 c3.2.1 rfl rfl
    refine v_if_ne 9 rfl (tgt := 27) rfl p5 (fun q6 => ?_) (fun q6 => ?_)
    · have h := h.1 q6
      refine v_aload_n 15 0 rfl rfl rfl ?_
      refine v_gI 16 rfl fl9_9_8.r c3.1 c3.2.1 (by decide) rfl c3.2.2.1 (x := g r0 0) rfl ?_
      refine v_rng fun w7 => ?_
      have p8 : i3 (g r0 0) := rI w7 (q := 0) c3.1 c3.2.1 rfl rfl
      refine v_iconst 17 rfl ?_
      refine v_icmp_ne 18 rfl (tgt := 41) rfl p8 (by decide) (fun q9 => ?_) (fun q9 => ?_)
      · have h := h.1 q9
        refine v_lload_n 23 2 rfl rfl rfl ?_
        have c10 := h.1
        have h := h.2
        have c11 := h.1
        have h := h.2
        refine v_last (N := 16) 24 rfl c3.2.2.2.2.2.1 c3.2.2.2.2.2.2.1 c3.2.2.2.2.2.2.2 (by decide) c10 c11 ?_
        exact v_ret (v := none) 25 rfl (Nat.zero_le _) (Nat.zero_le _) trivial rfl h
      · have h := h.2 q9
        refine v_lload_n 19 2 rfl rfl rfl ?_
        refine v_l2i 20 rfl ?_
        rw [← I_c2i x2]
        have c12 := c2i_r x2
        refine v_i2l 21 rfl c12 ?_
        refine v_goto 22 rfl (tgt := 42) rfl ?_
        have c13 := h.1
        have h := h.2
        refine v_last (N := 16) 24 rfl c3.2.2.2.2.2.1 c3.2.2.2.2.2.2.1 c3.2.2.2.2.2.2.2 (by decide) c13 (i36 c12) ?_
        exact v_ret (v := none) 25 rfl (Nat.zero_le _) (Nat.zero_le _) trivial rfl h
    · have h := h.2 q6
      refine v_lload_n 10 2 rfl rfl rfl ?_
      refine v_l2i 11 rfl ?_
      refine v_i2s 12 rfl ?_
      refine v_i2l 13 rfl (c2s_r _) ?_
      refine v_goto 14 rfl (tgt := 42) rfl ?_
      have c14 := h.1
      have h := h.2
      refine v_last (N := 16) 24 rfl c3.2.2.2.2.2.1 c3.2.2.2.2.2.2.1 c3.2.2.2.2.2.2.2 (by decide) c14 (i36 (c2s_r _)) ?_
      exact v_ret (v := none) 25 rfl (Nat.zero_le _) (Nat.zero_le _) trivial rfl h
/-! THE CLASS: trays -/
section Class6
variable {d n : Nat} {dy : Nat → Shp} {g a : Hp} {P : Pst}
theorem w2X9_put {r0 : Nat} {x1 x2 : Int} (hn : 100 ≤ n) (ht : Tr n (W0 dy) r0) (h1 : 0 ≤ x1 ∧ x1 < g r0 1 ∧ x1 < 16) (h2 : i6 x2) (h3 : i3 x1) (h : P none n (W0 dy) (up2 g (r0 + 1) x1.toNat (cutI (g r0 0) x2))) : Runs miX9_put (d + 1) [.ref r0, I_ x1, L_ x2] n (W0 dy) g P := by
  refine wX9_put hn ⟨ht, wX9_has hn ⟨h3, fun q => by omega, fun _ => ⟨ht, fun q => by omega, fun _ => ⟨fun q => by omega, fun _ => ?_⟩⟩⟩⟩
  refine b2X9_put_5 hn ⟨by decide, fun q => absurd q (by decide), fun _ => ⟨ht, fun q => ⟨fun q2 => ⟨⟨h1.1, h1.2.2⟩, h2, ?_⟩, fun q2 => ⟨⟨h1.1, h1.2.2⟩, ?_⟩⟩, fun q => ⟨⟨h1.1, h1.2.2⟩, ?_⟩⟩⟩
  · unfold cutI at h; rw [if_neg q, if_neg q2] at h; exact h
  · unfold cutI at h; rw [if_neg q, if_pos q2] at h; exact h
  · unfold cutI at h; rw [if_pos q] at h; exact h
theorem tr_ok (hn : 100 ≤ n) {t : Nat} (ht : t < 6) : Tr n (W0 dy) (41 + 2 * t) := by
  match t, ht with
  | 0, _ => exact ⟨⟨by decide, by omega⟩, rfl, rfl, rfl, rfl, ⟨by decide, by omega⟩, rfl, rfl⟩
  | 1, _ => exact ⟨⟨by decide, by omega⟩, rfl, rfl, rfl, rfl, ⟨by decide, by omega⟩, rfl, rfl⟩
  | 2, _ => exact ⟨⟨by decide, by omega⟩, rfl, rfl, rfl, rfl, ⟨by decide, by omega⟩, rfl, rfl⟩
  | 3, _ => exact ⟨⟨by decide, by omega⟩, rfl, rfl, rfl, rfl, ⟨by decide, by omega⟩, rfl, rfl⟩
  | 4, _ => exact ⟨⟨by decide, by omega⟩, rfl, rfl, rfl, rfl, ⟨by decide, by omega⟩, rfl, rfl⟩
  | 5, _ => exact ⟨⟨by decide, by omega⟩, rfl, rfl, rfl, rfl, ⟨by decide, by omega⟩, rfl, rfl⟩
theorem cs_trayAt {x1 : Int} (hC : Ca n dy g a) (h1 : i3 x1) (h : ((x1 < 0 ∨ 6 ≤ x1) → P (some (.ref 0)) n (W0 dy) g) ∧ (0 ≤ x1 → x1 < 6 → P (some (.ref (41 + 2 * x1.toNat))) n (W0 dy) g)) : Runs miX11_trayAt d [.ref 1, I_ x1] n (W0 dy) g P := by
  refine wX11_trayAt hC.1 ⟨h1, fun q => h.1 (Or.inl q), fun q => ⟨fun q2 => h.1 (Or.inr q2), fun q2 => ⟨⟨q, q2⟩, ?_⟩⟩⟩
  have := (hC.2.2.1 x1.toNat (by omega)).1
  rw [this]
  exact h.2 q q2
/-- what of a tray is known -/
theorem Ca.tk (hC : Ca n dy g a) (hI : Inv a) {t : Nat} (ht : t < 6) : (a 55 t = -1 ∧ g (41 + 2 * t) 0 = -1) ∨ ((0 ≤ a 55 t ∧ a 55 t ≤ 16) ∧ (0 ≤ a 54 t ∧ a 54 t ≤ 2) ∧ g (41 + 2 * t) 0 = a 54 t ∧ g (41 + 2 * t) 1 = a 55 t ∧ ∀ q : Nat, (q : Int) < a 55 t → g (42 + 2 * t) q = a 56 (16 * t + q)) := by
  have hT := hI.2.1 t ht
  rcases (hC.2.2.1 t ht).2 with ⟨c1, c2⟩ | ⟨c1, c2, c3, c4⟩
  · rcases hT with e | e
    · exact Or.inl ⟨e, c2⟩
    · omega
  · rcases hT with e | e
    · omega
    · exact Or.inr ⟨e.1, e.2, c2, c3, c4⟩
theorem cs_place {t : Nat} {x2 : Int} (hC : Ca n dy g a) (hI : Inv a) (ht : t < 6) (h2 : i3 x2) (h : P (some (I_ (plcI a (t : Int) x2))) n (W0 dy) g) : Runs miX11_placeStatus (d + 1) [.ref (41 + 2 * t), I_ x2] n (W0 dy) g P := by
  have hn := hC.1
  have tr := tr_ok (dy := dy) hn ht
  have h' : ∀ v, plcI a (t : Int) x2 = v → P (some (I_ v)) n (W0 dy) g := fun v e => by rw [← e]; exact h
  have ep : plcI a (t : Int) x2 = if a 55 t < 0 then 3 else if x2 < 0 ∨ a 55 t ≤ x2 then 4 else 0 := by
    unfold plcI; exact if_neg (by omega)
  refine wX11_placeStatus hn ⟨fun _ => ⟨tr, ?_⟩, fun q => by omega⟩
  rcases hC.tk hI ht with ⟨c1, c2⟩ | ⟨c1, c2, c3, c4, c5⟩
  · refine wX9_isMissing hn ⟨tr, fun q => absurd c2 q, fun _ => bX11_placeStatus_10 hn ⟨by decide, fun q => absurd q (by decide), fun _ => h' _ ?_⟩⟩
    rw [ep, if_pos (by omega)]
  · refine wX9_isMissing hn ⟨tr, fun _ => bX11_placeStatus_10 hn ⟨by decide, fun _ => ⟨tr, ?_⟩, fun q => absurd rfl q⟩, fun q => by omega⟩
    have no : (x2 < 0 ∨ a 55 t ≤ x2) → V miX11_placeStatus (d + 1) 20 [(0, .ref (41 + 2 * t)), (1, I_ x2)] [I_ 0] n (W0 dy) g 0 0 P := fun c => bX11_placeStatus_20 hn ⟨by decide, fun _ => h' _ (by rw [ep, if_neg (by omega), if_pos c]), fun q => absurd rfl q⟩
    refine wX9_has hn ⟨h2, fun q => no (Or.inl q), fun q => ⟨tr, fun q2 => no (Or.inr (by omega)), fun q2 => ⟨fun q3 => by omega, fun q3 => ?_⟩⟩⟩
    exact bX11_placeStatus_20 hn ⟨by decide, fun q9 => absurd q9 (by decide), fun _ => h' _ (by rw [ep, if_neg (by omega), if_neg (by omega)])⟩
theorem cs_place0 {x2 : Int} (hn : 100 ≤ n) (h : P (some (I_ 1)) n (W0 dy) g) : Runs miX11_placeStatus (d + 1) [.ref 0, I_ x2] n (W0 dy) g P := wX11_placeStatus hn ⟨fun q => absurd q (Nat.lt_irrefl 0), fun _ => h⟩
theorem Ca.tr {g' a' : Hp} (hC : Ca n dy g a) (h0 : g' 1 2 = g 1 2 ∧ g' 1 3 = a' 53 0 ∧ g' 1 11 = g 1 11) (hg : ∀ i q, i ≠ 1 → (i < 41 ∨ 52 < i) → g' i q = g i q) (ha : ∀ i q, rl i q = true → i ≠ 54 → i ≠ 55 → i ≠ 56 → (i ≠ 53 ∨ q ≠ 0) → a' i q = a i q) (hT : ∀ t : Nat, t < 6 → CT g' a' t) : Ca n dy g' a' := by
  obtain ⟨c0, ⟨c1, c2⟩, c3, c4, ⟨c5, c6⟩, c7, c8, c9⟩ := hC
  have e5 : a' 53 5 = a 53 5 := ha 53 5 rfl (by omega) (by omega) (by omega) (by omega)
  have e26 : a' 53 26 = a 53 26 := ha 53 26 rfl (by omega) (by omega) (by omega) (by omega)
  have e29 : a' 53 29 = a 53 29 := ha 53 29 rfl (by omega) (by omega) (by omega) (by omega)
  have r : ∀ i, (57 ≤ i ∧ i ≤ 70 ∨ i = 77 ∨ i = 78) → a' i = a i := fun i hi => funext fun q => ha i q (by unfold rl; rcases hi with h | h | h <;> simp <;> omega) (by omega) (by omega) (by omega) (by omega)
  have e3 : g' 3 = g 3 := funext fun q => hg 3 q (by omega) (by omega)
  refine ⟨c0, ⟨by rw [h0.1, e5]; exact c1, h0.2.1⟩, hT, fun k hk => ?_, ⟨by rw [h0.2.2, e26]; exact c5, fun i hi => ?_⟩, ?_, fun i hi hj => ?_, fun p hp => by rw [hg 23 p (by omega) (by omega)]; exact c9 p hp⟩
  · rw [e5] at hk
    have hp := c4 k hk
    have hb : 100 ≤ g 3 k ∧ g 3 k < n := hp.1
    unfold CP at hp ⊢
    rw [e3]
    have hp' := CQ.cong (u' := fun j q => g' (g 3 j).toNat q) hp (Nat.le_refl _) rfl rfl (fun j _ => rfl) (fun q _ => hg _ q (by omega) (by omega))
    unfold CQ mdl at hp' ⊢
    rw [r 57 (by omega), r 58 (by omega), r 59 (by omega), r 60 (by omega), r 61 (by omega), r 62 (by omega), r 63 (by omega), r 64 (by omega), r 65 (by omega), r 66 (by omega), r 67 (by omega), r 68 (by omega), r 69 (by omega), r 70 (by omega)]
    exact hp'
  · rw [hg 36 i (by omega) (by omega), r 77 (by omega)]; exact c6 i (by omega)
  · rw [hg 37 1 (by omega) (by omega), e29]; exact c7
  · rw [hg 38 i (by omega) (by omega), r 78 (by omega)]; exact c8 i (by omega) hj
theorem Inv.tr {a' : Hp} (hI : Inv a) (ha : ∀ i q, rl i q = true → i ≠ 54 → i ≠ 55 → i ≠ 56 → (i ≠ 53 ∨ q ≠ 0) → a' i q = a i q) (hT : ∀ t : Nat, t < 6 → TI a' t) : Inv a' := by
  have e5 : a' 53 5 = a 53 5 := ha 53 5 rfl (by omega) (by omega) (by omega) (by omega)
  have e26 : a' 53 26 = a 53 26 := ha 53 26 rfl (by omega) (by omega) (by omega) (by omega)
  have e29 : a' 53 29 = a 53 29 := ha 53 29 rfl (by omega) (by omega) (by omega) (by omega)
  have r : ∀ i, (57 ≤ i ∧ i ≤ 70 ∨ i = 77 ∨ i = 78) → a' i = a i := fun i hi => funext fun q => ha i q (by unfold rl; rcases hi with h | h | h <;> simp <;> omega) (by omega) (by omega) (by omega) (by omega)
  obtain ⟨i1, i2, i3_, i4, i5, i6_⟩ := hI
  unfold Inv
  rw [e5, e26, e29, r 77 (by omega), r 60 (by omega)]
  refine ⟨i1, hT, fun k hk => ?_, i4, i5, i6_⟩
  have := i3_ k hk
  unfold PI KI at this ⊢
  rw [e5, r 57 (by omega), r 58 (by omega), r 59 (by omega), r 60 (by omega), r 61 (by omega), r 62 (by omega), r 63 (by omega), r 64 (by omega), r 65 (by omega), r 66 (by omega), r 67 (by omega), r 68 (by omega), r 69 (by omega), r 70 (by omega)]
  exact this
theorem plc_neg {x1 x2 : Int} (h : x1 < 0 ∨ 6 ≤ x1) : plcI a x1 x2 = 1 := by unfold plcI; rw [if_pos h]
theorem cs_read {x1 x2 : Int} (hC : Ca n dy g a) (hI : Inv a) (h1 : i3 x1) (h2 : i3 x2) (h : ∀ v a' g', opRead a x1 x2 = (v, a') → Ca n dy g' a' → Kr g g' → P (some (L_ v)) n (W0 dy) g') : Runs miX11_read (d + 2) [.ref 1, I_ x1, I_ x2] n (W0 dy) g P := by
  have hn := hC.1
  have kr : ∀ w, Kr g (up2 g 1 3 w) := fun w => (Kr.refl g).up (by omega)
  have hb := plcI_b a x1 x2
  have no : ∀ r3 : Nat, 0 < plcI a x1 x2 → V miX11_read (d + 2) 12 [(0, .ref 1), (1, I_ x1), (2, I_ x2), (3, .ref r3)] [I_ (plcI a x1 x2), .ref 1] n (W0 dy) g 0 0 P := fun r3 c => by
    refine bX11_read_12 hn ⟨by omega, fun _ => h _ _ _ (by unfold opRead; exact if_pos c) (hC.st _) (kr _), fun q => by omega⟩
  refine wX11_read hn (cs_trayAt hC h1 ⟨fun c => bX11_read_5 hn (cs_place0 hn ?_), fun c1 c2 => ?_⟩)
  · have e : plcI a x1 x2 = 1 := plc_neg c
    have := no 0 (by omega)
    rw [e] at this; exact this
  · obtain ⟨t, rfl⟩ := exN c1
    have ht : t < 6 := by omega
    show V miX11_read (d + 2) 5 [(0, .ref 1), (1, I_ (t : Int)), (2, I_ x2)] [.ref (41 + 2 * t)] n (W0 dy) g 0 0 P
    refine bX11_read_5 hn (cs_place hC hI ht h2 ?_)
    by_cases c : 0 < plcI a (t : Int) x2
    · exact no _ c
    · have e : plcI a (t : Int) x2 = 0 := by omega
      obtain ⟨b1, b2, b3, b4⟩ := hb.2 e
      have b2 : 0 ≤ a 55 t := b2
      have b4 : x2 < a 55 t := b4
      have tr := tr_ok (dy := dy) hn ht
      rcases hC.tk hI ht with ⟨k1, k2⟩ | ⟨k1, k2, k3, k4, k5⟩
      · omega
      · have e0 : (up2 g 1 3 (plcI a (t : Int) x2)) (41 + 2 * t) 1 = g (41 + 2 * t) 1 := up2_i (by omega)
        refine bX11_read_12 hn ⟨by omega, fun q => absurd e q, fun _ => ⟨fun q => by omega, fun _ => ⟨tr, wX9_at hn ⟨tr, wX9_has hn ⟨h2, fun q => by omega, fun _ => ⟨tr, fun q => by omega, fun q => ⟨fun q => by omega, fun _ => ?_⟩⟩⟩⟩⟩⟩⟩
        refine bX9_at_5 hn ⟨by decide, fun q => absurd q (by decide), fun _ => ⟨tr, ⟨b3, by omega⟩, bX11_read_31 hn ?_⟩⟩
        have e1 : (up2 g 1 3 (plcI a (t : Int) x2)) (41 + 2 * t + 1) x2.toNat = a 56 (16 * (t : Int) + x2).toNat := by
          rw [up2_i (by omega), show 41 + 2 * t + 1 = 42 + 2 * t by omega, k5 x2.toNat (by omega), show (16 * (t : Int) + x2).toNat = 16 * t + x2.toNat by omega]
        rw [e1, e]
        exact h _ _ _ (by unfold opRead; exact if_neg c) (hC.st 0) (kr 0)
theorem cs_write {x1 x2 x3 : Int} (hC : Ca n dy g a) (hI : Inv a) (h1 : i3 x1) (h2 : i3 x2) (h3 : i6 x3) (h : ∀ v a' g', opWrite a x1 x2 x3 = (v, a') → Ca n dy g' a' → Kr g g' → P (some (I_ v)) n (W0 dy) g') : Runs miX11_write (d + 2) [.ref 1, I_ x1, I_ x2, L_ x3] n (W0 dy) g P := by
  have hn := hC.1
  have kr : ∀ w, Kr g (up2 g 1 3 w) := fun w => (Kr.refl g).up (by omega)
  have hb := plcI_b a x1 x2
  have no : ∀ r3 : Nat, 0 < plcI a x1 x2 → V miX11_write (d + 2) 13 [(0, .ref 1), (1, I_ x1), (2, I_ x2), (3, L_ x3), (5, .ref r3)] [I_ (plcI a x1 x2)] n (W0 dy) g 0 0 P := fun r3 c => by
    refine bX11_write_13 hn ⟨by omega, fun _ => wX11_refuses hn ⟨by omega, bX11_write_31 hn ⟨Or.inl rfl, h _ _ _ (by unfold opWrite; exact if_pos c) (hC.st _) (kr _)⟩⟩, fun q => by omega⟩
  refine wX11_write hn (cs_trayAt hC h1 ⟨fun c => bX11_write_5 hn (cs_place0 hn ?_), fun c1 c2 => ?_⟩)
  · have e : plcI a x1 x2 = 1 := plc_neg c
    have := no 0 (by omega)
    rw [e] at this; exact this
  · obtain ⟨t, rfl⟩ := exN c1
    have ht : t < 6 := by omega
    show V miX11_write (d + 2) 5 [(0, .ref 1), (1, I_ (t : Int)), (2, I_ x2), (3, L_ x3)] [.ref (41 + 2 * t)] n (W0 dy) g 0 0 P
    refine bX11_write_5 hn (cs_place hC hI ht h2 ?_)
    by_cases c : 0 < plcI a (t : Int) x2
    · exact no _ c
    · have e : plcI a (t : Int) x2 = 0 := by omega
      obtain ⟨b1, b2, b3, b4⟩ := hb.2 e
      have b2 : 0 ≤ a 55 t := b2
      have b4 : x2 < a 55 t := b4
      have tr := tr_ok (dy := dy) hn ht
      rcases hC.tk hI ht with ⟨k1, k2⟩ | ⟨k1, k2, k3, k4, k5⟩
      · omega
      · obtain ⟨q2, rfl⟩ := exN b3
        refine bX11_write_13 hn ⟨by omega, fun q => absurd e q, fun _ => ⟨fun _ => ⟨tr, w2X9_put hn tr ⟨by omega, by omega, by omega⟩ h3 h2 (bX11_write_39 hn (wX11_allows hn (bX11_write_43 hn ⟨Or.inr rfl, ?_⟩)))⟩, fun q => by omega⟩⟩
        rw [k3]
        refine h _ _ _ (by unfold opWrite; exact if_neg c) (Ca.tr hC ⟨?_, rfl, ?_⟩ (fun i q i1 i2 => ?_) (fun i q i1 i2 i3 i4 i5 => ?_) (fun s hs => ?_)) (((Kr.refl g).up (by omega)).up (by omega))
        · rw [up2_k, if_neg (by omega), up2_i (by omega)]
        · rw [up2_k, if_neg (by omega), up2_i (by omega)]
        · rw [up2_i i1, up2_i (by omega)]
        · rw [up2_i i4, up2_ap, if_neg (by omega)]
        · have hs' := hC.2.2.1 s hs
          have e55 : (up2 (up2 a 53 0 0) 56 (16 * (t : Int) + (q2 : Int)).toNat (cutI (a 54 ((t : Int)).toNat) x3)) 55 s = a 55 s := rfl
          have e54 : (up2 (up2 a 53 0 0) 56 (16 * (t : Int) + (q2 : Int)).toNat (cutI (a 54 ((t : Int)).toNat) x3)) 54 s = a 54 s := rfl
          unfold CT
          rw [e55, e54, up2_i (by omega), up2_i (by omega), up2_i (by omega), up2_i (by omega), up2_i (by omega), up2_i (by omega)]
          refine ⟨hs'.1, ?_⟩
          rcases hs'.2 with z | ⟨z1, z2, z3, z4⟩
          · exact Or.inl z
          · refine Or.inr ⟨z1, z2, z3, fun q hq => ?_⟩
            rw [up2_i (by omega), up2_ap, up2_k]
            show (if 42 + 2 * s = 41 + 2 * t + 1 ∧ q = q2 then cutI (a 54 t) x3 else g (42 + 2 * s) q) = if 16 * s + q = (16 * (t : Int) + (q2 : Int)).toNat then cutI (a 54 t) x3 else a 56 (16 * s + q)
            have hq16 : q < 16 := by
              rcases hI.2.1 s hs with y | y <;> omega
            by_cases w : s = t ∧ q = q2
            · rw [if_pos (by omega), if_pos (by omega)]
            · rw [if_neg (by omega), if_neg (by omega)]; exact z4 q hq
end Class6
