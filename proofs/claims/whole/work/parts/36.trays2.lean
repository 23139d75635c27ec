/-! THE CLASS: tray; suspect -/
section Class7
variable {d n : Nat} {dy : Nat → Shp} {g a : Hp} {P : Pst}
def flr (g : Hp) (r m : Nat) (x : Int) : Hp := fun i q => if i = r ∧ q < m then x else g i q
theorem flr_up (g : Hp) (r m : Nat) (x : Int) : up2 (flr g r m x) r m x = flr g r (m + 1) x := by
  funext i q
  unfold up2 flr
  repeat' split
  all_goals first | rfl | omega
theorem flr_z (g : Hp) (r : Nat) (x : Int) : flr g r 0 x = g := by
  funext i q
  unfold flr
  rw [if_neg (by omega)]
theorem sp_fillJ {r N : Nat} {x : Int} (hn : 100 ≤ n) (hA : Ar n (W0 dy) r 14 N) (hN : N ≤ 100000) (hx : i6 x) (h : P none n (W0 dy) (flr g r N x)) : Runs miJ7_fill_d0a16 d [.ref r, L_ x] n (W0 dy) g P := by
  refine wJ7_fill_d0a16 (N := N) hn ⟨⟨hA, hN⟩, ?_⟩
  have key : ∀ (f j : Nat), j + f = N → V miJ7_fill_d0a16 d 6 [(0, .ref r), (1, L_ x), (3, I_ (j : Int)), (4, I_ (N : Int))] [] n (W0 dy) (flr g r j x) 0 0 P := by
    intro f
    induction f with
    | zero =>
      intro j hj
      refine bJ7_fill_d0a16_6 (N := N) hn ⟨⟨by omega, by omega⟩, ⟨by omega, by omega⟩, fun _ => ?_, fun _ => by omega⟩
      rw [show j = N by omega]; exact h
    | succ f ih =>
      intro j hj
      refine bJ7_fill_d0a16_6 (N := N) hn ⟨⟨by omega, by omega⟩, ⟨by omega, by omega⟩, fun _ => by omega, fun _ => ⟨⟨hA, hN⟩, ⟨by omega, by omega⟩, hx, ?_⟩⟩
      have := ih (j + 1) (by omega)
      rw [← flr_up] at this
      exact this
  have := key N 0 (by omega)
  rw [flr_z] at this
  exact this
theorem cs_tray {x1 x2 x3 : Int} (hC : Ca n dy g a) (hI : Inv a) (h1 : i3 x1) (h2 : i3 x2) (h3 : i3 x3) (h : ∀ v a' g', opTray (up2 a 53 0 0) x1 x2 x3 = (v, a') → Ca n dy g' a' → Kr g g' → P (some (I_ v)) n (W0 dy) g') : Runs miX11_tray (d + 2) [.ref 1, I_ x1, I_ x2, I_ x3] n (W0 dy) g P := by
  have hn := hC.1
  have kr : ∀ w, Kr g (up2 g 1 3 w) := fun w => (Kr.refl g).up (by omega)
  have no1 : ∀ r4 : Nat, (x1 < 0 ∨ 6 ≤ x1 ∨ x2 < 0 ∨ 2 < x2) → Runs miX11_refuses (d + 1) [.ref 1, I_ 1] n (W0 dy) g (fun v n' S' g' => V miX11_tray (d + 2) 26 [(0, .ref 1), (1, I_ x1), (2, I_ x2), (3, I_ x3), (4, .ref r4)] (v.toList ++ []) n' S' g' 0 0 P) := fun r4 c => by
    refine wX11_refuses hn ⟨by decide, bX11_tray_26 hn ⟨Or.inl rfl, h _ _ _ ?_ (hC.st2 0 1) (kr 1)⟩⟩
    unfold opTray; exact if_pos c
  refine wX11_tray hn (cs_trayAt hC h1 ⟨fun c => ?_, fun c1 c2 => ?_⟩)
  · exact bX11_tray_5 hn ⟨fun _ => no1 _ (by omega), fun q => absurd q (Nat.lt_irrefl 0)⟩
  · obtain ⟨t, rfl⟩ := exN c1
    have ht : t < 6 := by omega
    have tr := tr_ok (dy := dy) hn ht
    show V miX11_tray (d + 2) 5 [(0, .ref 1), (1, I_ (t : Int)), (2, I_ x2), (3, I_ x3)] [.ref (41 + 2 * t)] n (W0 dy) g 0 0 P
    refine bX11_tray_5 hn ⟨fun q => by omega, fun _ => ⟨h2, fun q => no1 _ (by omega), fun q => ⟨fun q2 => ⟨h3, fun q3 => ⟨fun q4 => ⟨tr, ?_⟩, fun q4 => ?_⟩, fun q3 => ?_⟩, fun q2 => no1 _ (by omega)⟩⟩⟩
    · clear no1
      have g1 : ¬ ((t : Int) < 0 ∨ 6 ≤ (t : Int) ∨ x2 < 0 ∨ 2 < x2) := by omega
      obtain ⟨m, rfl⟩ := exN q3
      have eop : opTray (up2 a 53 0 0) (t : Int) x2 (m : Int) = (1, clr (up2 (up2 (up2 a 53 0 0) 54 t x2) 55 t (m : Int)) t m) := by
        unfold opTray
        exact (if_neg g1).trans ((if_neg (by omega)).trans (if_neg (by omega)))
      refine wX9_lay hn ⟨tr, h2, h3, sp_fillJ (N := 16) hn ⟨tr.2.2.2.2.2.1, tr.2.2.2.2.2.2.1, tr.2.2.2.2.2.2.2⟩ (by decide) (by decide) (bX9_lay_18 hn (bX11_tray_58 hn (wX11_allows hn (bX11_tray_62 hn ⟨Or.inr rfl, ?_⟩))))⟩
      refine h _ _ _ eop (Ca.tr hC ⟨?_, rfl, ?_⟩ (fun i q i1 i2 => ?_) (fun i q i1 i2 i3 i4 i5 => ?_) (fun s hs => ?_)) (fun i q hi => ?_)
      · rw [up2_k, if_neg (by omega)]; unfold flr; rw [if_neg (by omega), up2_i (by omega), up2_i (by omega)]
      · rw [up2_k, if_neg (by omega)]; unfold flr; rw [if_neg (by omega), up2_i (by omega), up2_i (by omega)]
      · rw [up2_i i1]; unfold flr; rw [if_neg (by omega), up2_i (by omega), up2_i (by omega)]
      · unfold clr; rw [if_neg (by omega), up2_i i3, up2_i i2, up2_ap, if_neg (by omega)]
      · have hs' := hC.2.2.1 s hs
        have cell : ∀ q, up2 (flr (up2 (up2 g (41 + 2 * t) 0 x2) (41 + 2 * t) 1 (m : Int)) (41 + 2 * t + 1) 16 0) 1 3 0 (41 + 2 * s) q = if s = t ∧ q = 1 then (m : Int) else if s = t ∧ q = 0 then x2 else g (41 + 2 * s) q := fun q => by
          rw [up2_i (by omega)]; unfold flr; rw [if_neg (by omega)]
          simp only [up2_ap]
          by_cases w : s = t
          · subst w; simp
          · rw [if_neg (by omega), if_neg (by omega), if_neg (by omega), if_neg (by omega)]
        have rowc : ∀ q, q < 16 → up2 (flr (up2 (up2 g (41 + 2 * t) 0 x2) (41 + 2 * t) 1 (m : Int)) (41 + 2 * t + 1) 16 0) 1 3 0 (42 + 2 * s) q = if s = t then 0 else g (42 + 2 * s) q := fun q hq => by
          rw [up2_i (by omega)]; unfold flr
          by_cases w : s = t
          · rw [if_pos (by omega), if_pos w]
          · rw [if_neg (by omega), if_neg w, up2_i (by omega), up2_i (by omega)]
        have e2 : up2 (flr (up2 (up2 g (41 + 2 * t) 0 x2) (41 + 2 * t) 1 (m : Int)) (41 + 2 * t + 1) 16 0) 1 3 0 2 s = g 2 s := by
          rw [up2_i (by omega)]; unfold flr; rw [if_neg (by omega), up2_i (by omega), up2_i (by omega)]
        have a55 : clr (up2 (up2 (up2 a 53 0 0) 54 t x2) 55 t (m : Int)) t m 55 s = if s = t then (m : Int) else a 55 s := by
          unfold clr; rw [if_neg (by omega), up2_k]; rfl
        have a54 : clr (up2 (up2 (up2 a 53 0 0) 54 t x2) 55 t (m : Int)) t m 54 s = if s = t then x2 else a 54 s := by
          unfold clr; rw [if_neg (by omega), up2_i (by omega), up2_k]; rfl
        unfold CT
        rw [e2, cell 0, cell 1, a55, a54]
        refine ⟨hs'.1, ?_⟩
        by_cases w : s = t
        · rw [if_pos w, if_neg (by omega), if_pos ⟨w, rfl⟩, if_pos w, if_pos ⟨w, rfl⟩]
          refine Or.inr ⟨by omega, rfl, rfl, fun q hq => ?_⟩
          rw [rowc q (by omega), if_pos w]
          unfold clr
          rw [if_pos (by omega)]
        · rw [if_neg w, if_neg (by omega), if_neg (by omega), if_neg (by omega), if_neg (by omega), if_neg (by omega)]
          rcases hs'.2 with z | ⟨z1, z2, z3, z4⟩
          · exact Or.inl z
          · refine Or.inr ⟨z1, z2, z3, fun q hq => ?_⟩
            have hq16 : q < 16 := by
              rcases hI.2.1 s hs with y | y <;> omega
            rw [rowc q hq16, if_neg w]
            unfold clr
            rw [if_neg (by omega), up2_i (by omega), up2_i (by omega)]
            exact z4 q hq
      · rw [up2_i (by omega)]; unfold flr; rw [if_neg (by omega), up2_i (by omega), up2_i (by omega)]
    · refine wX11_refuses hn ⟨by decide, bX11_tray_50 hn ⟨Or.inl rfl, h _ _ _ ?_ (hC.st2 0 7) (kr 7)⟩⟩
      unfold opTray; exact (if_neg (by omega)).trans ((if_neg (by omega)).trans (if_pos q4))
    · refine wX11_refuses hn ⟨by decide, bX11_tray_37 hn ⟨Or.inl rfl, h _ _ _ ?_ (hC.st2 0 6) (kr 6)⟩⟩
      unfold opTray; exact (if_neg (by omega)).trans (if_pos q3)
theorem cs_suspect {x1 : Int} (hC : Ca n dy g a) (hI : Inv a) (h1 : i3 x1) (h : P (some (I_ (if x1 < 0 ∨ a 53 26 ≤ x1 then -1 else a 77 x1.toNat))) n (W0 dy) g) : Runs miX11_suspect d [.ref 1, I_ x1] n (W0 dy) g P := by
  obtain ⟨e1, e2⟩ := hC.2.2.2.2.1
  have hk := hI.2.2.2.2.1.1
  refine wX11_suspect hC.1 ⟨h1, fun q => ?_, fun q => ⟨fun q2 => ?_, fun q2 => ⟨fun q3 => by omega, fun q3 => ⟨⟨q, q3⟩, ?_⟩⟩⟩⟩
  · rw [if_pos (Or.inl q)] at h; exact h
  · rw [if_pos (Or.inr (by omega))] at h; exact h
  · rw [if_neg (by omega)] at h
    rw [e2 x1.toNat (by omega)]; exact h
end Class7
