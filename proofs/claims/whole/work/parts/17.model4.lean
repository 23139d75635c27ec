set_option maxHeartbeats 8000000 in
set_option maxRecDepth 4000 in
theorem bX12_areThreads_0 {d n : Nat} {dy : Nat → Shp} {g : Hp} {P : Pst} {x1 : Int} (hn : 100 ≤ n) (h : V miX12_areThreads d 2 [(0, .ref 53), (1, I_ x1), (2, I_ 0)] [] n (W0 dy) g 0 0 P) : V miX12_areThreads d 0 [(0, .ref 53), (1, I_ x1)] [] n (W0 dy) g 0 0 P := by
  refine v_iconst 0 rfl ?_
  refine v_istore_n 1 [1, 2, 0] rfl rfl (by decide) rfl ?_
  exact h
set_option maxHeartbeats 8000000 in
set_option maxRecDepth 4000 in
theorem bX12_areThreads_2 {d n : Nat} {dy : Nat → Shp} {g : Hp} {P : Pst} {x1 : Int} {x2 : Int} (hn : 100 ≤ n) (h : (i3 x2) ∧ (i3 x1) ∧ ((x1 ≤ x2) → P (some (I_ 1)) n (W0 dy) g) ∧ ((x2 < x1) → (0 ≤ x2 ∧ x2 < 60) ∧ (0 ≤ g 85 x2.toNat ∧ g 85 x2.toNat < 60) ∧ (i3 ((g 62 ((g 85 x2.toNat).toNat)) + (g 84 ((g 85 x2.toNat).toNat)))) ∧ ((((g 62 ((g 85 x2.toNat).toNat)) + (g 84 ((g 85 x2.toNat).toNat))) ≤ 1000) → V miX12_areThreads d 2 [(0, .ref 53), (1, I_ x1), (2, I_ (x2 + 1))] [] n (W0 dy) g 0 0 P) ∧ ((1000 < ((g 62 ((g 85 x2.toNat).toNat)) + (g 84 ((g 85 x2.toNat).toNat)))) → P (some (I_ 0)) n (W0 dy) g))) : V miX12_areThreads d 2 [(0, .ref 53), (1, I_ x1), (2, I_ x2)] [] n (W0 dy) g 0 0 P := by
  refine v_iload_n 2 2 rfl rfl rfl ?_
  refine v_iload_n 3 1 rfl rfl rfl ?_
  have c1 := h.1
  have h := h.2
  have c2 := h.1
  have h := h.2
  refine v_icmp_ge 4 rfl (tgt := 44) rfl c1 c2 (fun q3 => ?_) (fun q3 => ?_)
  · have h := h.1 q3
    refine v_iconst 26 rfl ?_
    exact v_ret (v := some (I_ 1)) 27 rfl (Nat.zero_le _) (Nat.zero_le _) (Or.inr rfl) rfl h
  · have h := h.2 q3
    refine v_aload_n 5 0 rfl rfl rfl ?_
    refine v_gK 6 rfl fl12_35_11.r (al 53 rfl hn) (wk53 dy) (by decide) rfl (r := 62) (wc53_11 dy) ?_
    refine v_aload_n 7 0 rfl rfl rfl ?_
    refine v_gK 8 rfl fl12_106_11.r (al 53 rfl hn) (wk53 dy) (by decide) rfl (r := 85) (wc53_40 dy) ?_
    refine v_iload_n 9 2 rfl rfl rfl ?_
    have c4 := h.1
    have h := h.2
    refine v_ia (N := 60) 10 rfl (al 85 rfl hn) (wk85 dy) (wn85 dy) (by decide) c4 (y := g 85 x2.toNat) rfl ?_
    refine v_rng fun w5 => ?_
    have p6 : i3 (g 85 x2.toNat) := rI w5 (q := x2.toNat) (al 85 rfl hn) (wk85 dy) rfl rfl
    have c7 := h.1
    have h := h.2
    refine v_ia (N := 60) 11 rfl (al 62 rfl hn) (wk62 dy) (wn62 dy) (by decide) c7 (y := g 62 ((g 85 x2.toNat).toNat)) rfl ?_
    refine v_rng fun w8 => ?_
    have p9 : i3 (g 62 ((g 85 x2.toNat).toNat)) := rI w8 (q := ((g 85 x2.toNat).toNat)) (al 62 rfl hn) (wk62 dy) rfl rfl
    refine v_aload_n 12 0 rfl rfl rfl ?_
    refine v_gK 13 rfl fl12_103_11.r (al 53 rfl hn) (wk53 dy) (by decide) rfl (r := 84) (wc53_39 dy) ?_
    refine v_aload_n 14 0 rfl rfl rfl ?_
    refine v_gK 15 rfl fl12_106_11.r (al 53 rfl hn) (wk53 dy) (by decide) rfl (r := 85) (wc53_40 dy) ?_
    refine v_iload_n 16 2 rfl rfl rfl ?_
    refine v_ia (N := 60) 17 rfl (al 85 rfl hn) (wk85 dy) (wn85 dy) (by decide) c4 (y := g 85 x2.toNat) rfl ?_
    refine v_rng fun w10 => ?_
    have p11 : i3 (g 85 x2.toNat) := rI w10 (q := x2.toNat) (al 85 rfl hn) (wk85 dy) rfl rfl
    refine v_ia (N := 60) 18 rfl (al 84 rfl hn) (wk84 dy) (wn84 dy) (by decide) c7 (y := g 84 ((g 85 x2.toNat).toNat)) rfl ?_
    refine v_rng fun w12 => ?_
    have p13 : i3 (g 84 ((g 85 x2.toNat).toNat)) := rI w12 (q := ((g 85 x2.toNat).toNat)) (al 84 rfl hn) (wk84 dy) rfl rfl
    refine v_iadd 19 rfl ?_
    refine v_sipush 20 rfl (by decide) ?_
    have c14 := h.1
    have h := h.2
    refine v_icmp_le 21 rfl (tgt := 38) rfl c14 (by decide) (fun q15 => ?_) (fun q15 => ?_)
    · have h := h.1 q15
      refine v_iinc 24 2 [1, 2, 0] rfl rfl (by decide) rfl ?_
      refine v_goto 25 rfl (tgt := 2) rfl ?_
      exact h
    · have h := h.2 q15
      refine v_iconst 22 rfl ?_
      exact v_ret (v := some (I_ 0)) 23 rfl (Nat.zero_le _) (Nat.zero_le _) (Or.inl rfl) rfl h
theorem wX12_areThreads {d n : Nat} {dy : Nat → Shp} {g : Hp} {P : Pst} {x1 : Int} (hn : 100 ≤ n) (h : V miX12_areThreads d 2 [(0, .ref 53), (1, I_ x1), (2, I_ 0)] [] n (W0 dy) g 0 0 P) : Runs miX12_areThreads d [.ref 53, I_ x1] n (W0 dy) g P := Runs.of rfl rfl deX12_areThreads (Nat.le_of_ble_eq_true rfl) (bX12_areThreads_0 hn h)
set_option maxHeartbeats 8000000 in
set_option maxRecDepth 4000 in
theorem bX12_lengthen_0 {d n : Nat} {dy : Nat → Shp} {g : Hp} {P : Pst} {x1 : Int} {x2 : Int} (hn : 100 ≤ n) (h : V miX12_lengthen d 2 [(0, .ref 53), (1, I_ x1), (2, I_ x2), (3, I_ 0)] [] n (W0 dy) g 0 0 P) : V miX12_lengthen d 0 [(0, .ref 53), (1, I_ x1), (2, I_ x2)] [] n (W0 dy) g 0 0 P := by
  refine v_iconst 0 rfl ?_
  refine v_istore_n 1 [1, 2, 3, 0] rfl rfl (by decide) rfl ?_
  exact h
set_option maxHeartbeats 8000000 in
set_option maxRecDepth 4000 in
theorem bX12_lengthen_2 {d n : Nat} {dy : Nat → Shp} {g : Hp} {P : Pst} {x1 : Int} {x2 : Int} {x3 : Int} (hn : 100 ≤ n) (h : (i3 x3) ∧ (i3 x1) ∧ ((x1 ≤ x3) → P (some (I_ x2)) n (W0 dy) g) ∧ ((x3 < x1) → (0 ≤ x3 ∧ x3 < 60) ∧ (0 ≤ g 85 x3.toNat ∧ g 85 x3.toNat < 60) ∧ ∀ y14 : Int, y14 = (g 62 ((g 85 x3.toNat).toNat)) + (g 84 ((g 85 x3.toNat).toNat)) → (i3 y14) ∧ V miX12_lengthen d 2 [(0, .ref 53), (1, I_ x1), (2, I_ x2), (3, I_ (x3 + 1))] [] n (W0 dy) (up2 g 62 ((g 85 x3.toNat).toNat) y14) 0 0 P)) : V miX12_lengthen d 2 [(0, .ref 53), (1, I_ x1), (2, I_ x2), (3, I_ x3)] [] n (W0 dy) g 0 0 P := by
  refine v_iload_n 2 3 rfl rfl rfl ?_
  refine v_iload_n 3 1 rfl rfl rfl ?_
  have c1 := h.1
  have h := h.2
  have c2 := h.1
  have h := h.2
  refine v_icmp_ge 4 rfl (tgt := 38) rfl c1 c2 (fun q3 => ?_) (fun q3 => ?_)
  · have h := h.1 q3
    refine v_iload_n 24 2 rfl rfl rfl ?_
    exact v_ret (v := some (I_ x2)) 25 rfl (Nat.zero_le _) (Nat.zero_le _) trivial rfl h
  · have h := h.2 q3
    refine v_aload_n 5 0 rfl rfl rfl ?_
    refine v_gK 6 rfl fl12_35_11.r (al 53 rfl hn) (wk53 dy) (by decide) rfl (r := 62) (wc53_11 dy) ?_
    refine v_aload_n 7 0 rfl rfl rfl ?_
    refine v_gK 8 rfl fl12_106_11.r (al 53 rfl hn) (wk53 dy) (by decide) rfl (r := 85) (wc53_40 dy) ?_
    refine v_iload_n 9 3 rfl rfl rfl ?_
    have c4 := h.1
    have h := h.2
    refine v_ia (N := 60) 10 rfl (al 85 rfl hn) (wk85 dy) (wn85 dy) (by decide) c4 (y := g 85 x3.toNat) rfl ?_
    refine v_rng fun w5 => ?_
    have p6 : i3 (g 85 x3.toNat) := rI w5 (q := x3.toNat) (al 85 rfl hn) (wk85 dy) rfl rfl
    refine v_dup2 11 rfl (by intro h; cases h) (by intro h; cases h) ?_
    have c7 := h.1
    have h := h.2
    refine v_ia (N := 60) 12 rfl (al 62 rfl hn) (wk62 dy) (wn62 dy) (by decide) c7 (y := g 62 ((g 85 x3.toNat).toNat)) rfl ?_
    refine v_rng fun w8 => ?_
    have p9 : i3 (g 62 ((g 85 x3.toNat).toNat)) := rI w8 (q := ((g 85 x3.toNat).toNat)) (al 62 rfl hn) (wk62 dy) rfl rfl
    refine v_aload_n 13 0 rfl rfl rfl ?_
    refine v_gK 14 rfl fl12_103_11.r (al 53 rfl hn) (wk53 dy) (by decide) rfl (r := 84) (wc53_39 dy) ?_
    refine v_aload_n 15 0 rfl rfl rfl ?_
    refine v_gK 16 rfl fl12_106_11.r (al 53 rfl hn) (wk53 dy) (by decide) rfl (r := 85) (wc53_40 dy) ?_
    refine v_iload_n 17 3 rfl rfl rfl ?_
    refine v_ia (N := 60) 18 rfl (al 85 rfl hn) (wk85 dy) (wn85 dy) (by decide) c4 (y := g 85 x3.toNat) rfl ?_
    refine v_rng fun w10 => ?_
    have p11 : i3 (g 85 x3.toNat) := rI w10 (q := x3.toNat) (al 85 rfl hn) (wk85 dy) rfl rfl
    refine v_ia (N := 60) 19 rfl (al 84 rfl hn) (wk84 dy) (wn84 dy) (by decide) c7 (y := g 84 ((g 85 x3.toNat).toNat)) rfl ?_
    refine v_rng fun w12 => ?_
    have p13 : i3 (g 84 ((g 85 x3.toNat).toNat)) := rI w12 (q := ((g 85 x3.toNat).toNat)) (al 84 rfl hn) (wk84 dy) rfl rfl
    refine v_iadd 20 rfl ?_
    refine v_nmI (fun y14 ey14 => ?_)
    have h := h y14 ey14
    have c15 := h.1
    have h := h.2
    refine v_iast (N := 60) 21 rfl (al 62 rfl hn) (wk62 dy) (wn62 dy) (by decide) c7 c15 ?_
    refine v_iinc 22 3 [1, 2, 3, 0] rfl rfl (by decide) rfl ?_
    refine v_goto 23 rfl (tgt := 2) rfl ?_
    exact h
theorem wX12_lengthen {d n : Nat} {dy : Nat → Shp} {g : Hp} {P : Pst} {x1 : Int} {x2 : Int} (hn : 100 ≤ n) (h : V miX12_lengthen d 2 [(0, .ref 53), (1, I_ x1), (2, I_ x2), (3, I_ 0)] [] n (W0 dy) g 0 0 P) : Runs miX12_lengthen d [.ref 53, I_ x1, I_ x2] n (W0 dy) g P := Runs.of rfl rfl deX12_lengthen (Nat.le_of_ble_eq_true rfl) (bX12_lengthen_0 hn h)
set_option maxHeartbeats 8000000 in
set_option maxRecDepth 4000 in
theorem bX12_nextChoice_0 {d n : Nat} {dy : Nat → Shp} {g : Hp} {P : Pst} {x1 : Int} (hn : 100 ≤ n) (h : (i3 x1) ∧ ((x1 ≤ 0) → V miX12_nextChoice d 26 [(0, .ref 53), (1, I_ x1), (2, I_ 0), (3, I_ (x1 - 2))] [] n (W0 dy) g 0 0 P) ∧ ((0 < x1) → (0 ≤ x1 - 1 ∧ x1 - 1 < 60) ∧ (0 ≤ g 85 ((x1 - 1).toNat) ∧ g 85 ((x1 - 1).toNat) < 60) ∧ ∀ y9 : Int, y9 = g 84 ((g 85 ((x1 - 1).toNat)).toNat) → V miX12_nextChoice d 26 [(0, .ref 53), (1, I_ x1), (2, I_ y9), (3, I_ (x1 - 2))] [] n (W0 dy) g 0 0 P)) : V miX12_nextChoice d 0 [(0, .ref 53), (1, I_ x1)] [] n (W0 dy) g 0 0 P := by
  refine v_iload_n 0 1 rfl rfl rfl ?_
  have c1 := h.1
  have h := h.2
  refine v_if_le 1 rfl (tgt := 20) rfl c1 (fun q2 => ?_) (fun q2 => ?_)
  · have h := h.1 q2
    refine v_iconst 12 rfl ?_
    refine v_istore_n 13 [1, 2, 0] rfl rfl (by decide) rfl ?_
    refine v_iload_n 14 1 rfl rfl rfl ?_
    refine v_iconst 15 rfl ?_
    refine v_isub 16 rfl ?_
    refine v_istore_n 17 [1, 2, 3, 0] rfl rfl (by decide) rfl ?_
    exact h
  · have h := h.2 q2
    refine v_aload_n 2 0 rfl rfl rfl ?_
    refine v_gK 3 rfl fl12_103_11.r (al 53 rfl hn) (wk53 dy) (by decide) rfl (r := 84) (wc53_39 dy) ?_
    refine v_aload_n 4 0 rfl rfl rfl ?_
    refine v_gK 5 rfl fl12_106_11.r (al 53 rfl hn) (wk53 dy) (by decide) rfl (r := 85) (wc53_40 dy) ?_
    refine v_iload_n 6 1 rfl rfl rfl ?_
    refine v_iconst 7 rfl ?_
    refine v_isub 8 rfl ?_
    have c3 := h.1
    have h := h.2
    refine v_ia (N := 60) 9 rfl (al 85 rfl hn) (wk85 dy) (wn85 dy) (by decide) c3 (y := g 85 ((x1 - 1).toNat)) rfl ?_
    refine v_rng fun w4 => ?_
    have p5 : i3 (g 85 ((x1 - 1).toNat)) := rI w4 (q := ((x1 - 1).toNat)) (al 85 rfl hn) (wk85 dy) rfl rfl
    have c6 := h.1
    have h := h.2
    refine v_ia (N := 60) 10 rfl (al 84 rfl hn) (wk84 dy) (wn84 dy) (by decide) c6 (y := g 84 ((g 85 ((x1 - 1).toNat)).toNat)) rfl ?_
    refine v_rng fun w7 => ?_
    have p8 : i3 (g 84 ((g 85 ((x1 - 1).toNat)).toNat)) := rI w7 (q := ((g 85 ((x1 - 1).toNat)).toNat)) (al 84 rfl hn) (wk84 dy) rfl rfl
    refine v_goto 11 rfl (tgt := 21) rfl ?_
    refine v_nmI (fun y9 ey9 => ?_)
    have h := h y9 ey9
    have ry9 : i3 y9 := by rw [ey9]; exact p8
    refine v_istore_n 13 [1, 2, 0] rfl rfl (by decide) rfl ?_
    refine v_iload_n 14 1 rfl rfl rfl ?_
    refine v_iconst 15 rfl ?_
    refine v_isub 16 rfl ?_
    refine v_istore_n 17 [1, 2, 3, 0] rfl rfl (by decide) rfl ?_
    exact h
set_option maxHeartbeats 8000000 in
set_option maxRecDepth 4000 in
theorem bX12_nextChoice_26 {d n : Nat} {dy : Nat → Shp} {g : Hp} {P : Pst} {x1 : Int} {x2 : Int} {x3 : Int} (hn : 100 ≤ n) (h : (i3 x3) ∧ ((x3 < 0) → ((0 ≤ x3) → (0 ≤ x1 - 1 ∧ x1 - 1 < 60) ∧ (0 ≤ g 85 ((x1 - 1).toNat) ∧ g 85 ((x1 - 1).toNat) < 60) ∧ (0 ≤ x3 ∧ x3 < 60) ∧ (0 ≤ g 85 x3.toNat ∧ g 85 x3.toNat < 60) ∧ ∀ y14 : Int, y14 = ((up2 g 84 ((g 85 ((x1 - 1).toNat)).toNat) 0) 84 ((g 85 x3.toNat).toNat)) - 1 → (i3 y14) ∧ (0 ≤ x3 + 1 ∧ x3 + 1 < 60) ∧ (0 ≤ g 85 ((x3 + 1).toNat) ∧ g 85 ((x3 + 1).toNat) < 60) ∧ (i3 (x2 + 1)) ∧ P (some (I_ 1)) n (W0 dy) (up2 (up2 (up2 g 84 ((g 85 ((x1 - 1).toNat)).toNat) 0) 84 ((g 85 x3.toNat).toNat) y14) 84 ((g 85 ((x3 + 1).toNat)).toNat) (x2 + 1))) ∧ ((x3 < 0) → P (some (I_ 0)) n (W0 dy) g)) ∧ ((0 ≤ x3) → (0 ≤ x3 ∧ x3 < 60) ∧ (0 ≤ g 85 x3.toNat ∧ g 85 x3.toNat < 60) ∧ (((g 84 ((g 85 x3.toNat).toNat)) ≠ 0) → ((0 ≤ x3) → (0 ≤ x1 - 1 ∧ x1 - 1 < 60) ∧ (0 ≤ g 85 ((x1 - 1).toNat) ∧ g 85 ((x1 - 1).toNat) < 60) ∧ ∀ y37 : Int, y37 = ((up2 g 84 ((g 85 ((x1 - 1).toNat)).toNat) 0) 84 ((g 85 x3.toNat).toNat)) - 1 → (i3 y37) ∧ (0 ≤ x3 + 1 ∧ x3 + 1 < 60) ∧ (0 ≤ g 85 ((x3 + 1).toNat) ∧ g 85 ((x3 + 1).toNat) < 60) ∧ (i3 (x2 + 1)) ∧ P (some (I_ 1)) n (W0 dy) (up2 (up2 (up2 g 84 ((g 85 ((x1 - 1).toNat)).toNat) 0) 84 ((g 85 x3.toNat).toNat) y37) 84 ((g 85 ((x3 + 1).toNat)).toNat) (x2 + 1))) ∧ ((x3 < 0) → P (some (I_ 0)) n (W0 dy) g)) ∧ (((g 84 ((g 85 x3.toNat).toNat)) = 0) → V miX12_nextChoice d 26 [(0, .ref 53), (1, I_ x1), (2, I_ x2), (3, I_ (x3 + (-1)))] [] n (W0 dy) g 0 0 P))) : V miX12_nextChoice d 26 [(0, .ref 53), (1, I_ x1), (2, I_ x2), (3, I_ x3)] [] n (W0 dy) g 0 0 P := by
  refine v_iload_n 18 3 rfl rfl rfl ?_
  have c1 := h.1
  have h := h.2
  refine v_if_lt 19 rfl (tgt := 50) rfl c1 (fun q2 => ?_) (fun q2 => ?_)
  · have h := h.1 q2
    refine v_iload_n 30 3 rfl rfl rfl ?_
    refine v_if_ge 31 rfl (tgt := 56) rfl c1 (fun q3 => ?_) (fun q3 => ?_)
    · have h := h.1 q3
      refine v_aload_n 34 0 rfl rfl rfl ?_
      refine v_gK 35 rfl fl12_103_11.r (al 53 rfl hn) (wk53 dy) (by decide) rfl (r := 84) (wc53_39 dy) ?_
      refine v_aload_n 36 0 rfl rfl rfl ?_
      refine v_gK 37 rfl fl12_106_11.r (al 53 rfl hn) (wk53 dy) (by decide) rfl (r := 85) (wc53_40 dy) ?_
      refine v_iload_n 38 1 rfl rfl rfl ?_
      refine v_iconst 39 rfl ?_
      refine v_isub 40 rfl ?_
      have c4 := h.1
      have h := h.2
      refine v_ia (N := 60) 41 rfl (al 85 rfl hn) (wk85 dy) (wn85 dy) (by decide) c4 (y := g 85 ((x1 - 1).toNat)) rfl ?_
      refine v_rng fun w5 => ?_
      have p6 : i3 (g 85 ((x1 - 1).toNat)) := rI w5 (q := ((x1 - 1).toNat)) (al 85 rfl hn) (wk85 dy) rfl rfl
      refine v_iconst 42 rfl ?_
      have c7 := h.1
      have h := h.2
      refine v_iast (N := 60) 43 rfl (al 84 rfl hn) (wk84 dy) (wn84 dy) (by decide) c7 (by decide) ?_
      refine v_aload_n 44 0 rfl rfl rfl ?_
      refine v_gK 45 rfl fl12_103_11.r (al 53 rfl hn) (wk53 dy) (by decide) rfl (r := 84) (wc53_39 dy) ?_
      refine v_aload_n 46 0 rfl rfl rfl ?_
      refine v_gK 47 rfl fl12_106_11.r (al 53 rfl hn) (wk53 dy) (by decide) rfl (r := 85) (wc53_40 dy) ?_
      refine v_iload_n 48 3 rfl rfl rfl ?_
      have c8 := h.1
      have h := h.2
      refine v_ia (N := 60) 49 rfl (al 85 rfl hn) (wk85 dy) (wn85 dy) (by decide) c8 (y := g 85 x3.toNat) rfl ?_
      refine v_rng fun w9 => ?_
      have p10 : i3 (g 85 x3.toNat) := rI w9 (q := x3.toNat) (al 85 rfl hn) (wk85 dy) rfl rfl
      refine v_dup2 50 rfl (by intro h; cases h) (by intro h; cases h) ?_
      have c11 := h.1
      have h := h.2
      refine v_ia (N := 60) 51 rfl (al 84 rfl hn) (wk84 dy) (wn84 dy) (by decide) c11 (y := (up2 g 84 ((g 85 ((x1 - 1).toNat)).toNat) 0) 84 ((g 85 x3.toNat).toNat)) rfl ?_
      refine v_rng fun w12 => ?_
      have p13 : i3 ((up2 g 84 ((g 85 ((x1 - 1).toNat)).toNat) 0) 84 ((g 85 x3.toNat).toNat)) := rI w12 (q := ((g 85 x3.toNat).toNat)) (al 84 rfl hn) (wk84 dy) rfl rfl
      refine v_iconst 52 rfl ?_
      refine v_isub 53 rfl ?_
      refine v_nmI (fun y14 ey14 => ?_)
      have h := h y14 ey14
      have c15 := h.1
      have h := h.2
      refine v_iast (N := 60) 54 rfl (al 84 rfl hn) (wk84 dy) (wn84 dy) (by decide) c11 c15 ?_
      refine v_aload_n 55 0 rfl rfl rfl ?_
      refine v_gK 56 rfl fl12_103_11.r (al 53 rfl hn) (wk53 dy) (by decide) rfl (r := 84) (wc53_39 dy) ?_
      refine v_aload_n 57 0 rfl rfl rfl ?_
      refine v_gK 58 rfl fl12_106_11.r (al 53 rfl hn) (wk53 dy) (by decide) rfl (r := 85) (wc53_40 dy) ?_
      refine v_iload_n 59 3 rfl rfl rfl ?_
      refine v_iconst 60 rfl ?_
      refine v_iadd 61 rfl ?_
      have c16 := h.1
      have h := h.2
      refine v_ia (N := 60) 62 rfl (al 85 rfl hn) (wk85 dy) (wn85 dy) (by decide) c16 (y := g 85 ((x3 + 1).toNat)) rfl ?_
      refine v_rng fun w17 => ?_
      have p18 : i3 (g 85 ((x3 + 1).toNat)) := rI w17 (q := ((x3 + 1).toNat)) (al 85 rfl hn) (wk85 dy) rfl rfl
      refine v_iload_n 63 2 rfl rfl rfl ?_
      refine v_iconst 64 rfl ?_
      refine v_iadd 65 rfl ?_
      have c19 := h.1
      have h := h.2
      have c20 := h.1
      have h := h.2
      refine v_iast (N := 60) 66 rfl (al 84 rfl hn) (wk84 dy) (wn84 dy) (by decide) c19 c20 ?_
      refine v_iconst 67 rfl ?_
      exact v_ret (v := some (I_ 1)) 68 rfl (Nat.zero_le _) (Nat.zero_le _) (Or.inr rfl) rfl h
    · have h := h.2 q3
      refine v_iconst 32 rfl ?_
      exact v_ret (v := some (I_ 0)) 33 rfl (Nat.zero_le _) (Nat.zero_le _) (Or.inl rfl) rfl h
  · have h := h.2 q2
    refine v_aload_n 20 0 rfl rfl rfl ?_
    refine v_gK 21 rfl fl12_103_11.r (al 53 rfl hn) (wk53 dy) (by decide) rfl (r := 84) (wc53_39 dy) ?_
    refine v_aload_n 22 0 rfl rfl rfl ?_
    refine v_gK 23 rfl fl12_106_11.r (al 53 rfl hn) (wk53 dy) (by decide) rfl (r := 85) (wc53_40 dy) ?_
    refine v_iload_n 24 3 rfl rfl rfl ?_
    have c21 := h.1
    have h := h.2
    refine v_ia (N := 60) 25 rfl (al 85 rfl hn) (wk85 dy) (wn85 dy) (by decide) c21 (y := g 85 x3.toNat) rfl ?_
    refine v_rng fun w22 => ?_
    have p23 : i3 (g 85 x3.toNat) := rI w22 (q := x3.toNat) (al 85 rfl hn) (wk85 dy) rfl rfl
    have c24 := h.1
    have h := h.2
    refine v_ia (N := 60) 26 rfl (al 84 rfl hn) (wk84 dy) (wn84 dy) (by decide) c24 (y := g 84 ((g 85 x3.toNat).toNat)) rfl ?_
    refine v_rng fun w25 => ?_
    have p26 : i3 (g 84 ((g 85 x3.toNat).toNat)) := rI w25 (q := ((g 85 x3.toNat).toNat)) (al 84 rfl hn) (wk84 dy) rfl rfl
    refine v_if_ne 27 rfl (tgt := 50) rfl p26 (fun q27 => ?_) (fun q27 => ?_)
    · have h := h.1 q27
      refine v_iload_n 30 3 rfl rfl rfl ?_
      refine v_if_ge 31 rfl (tgt := 56) rfl c1 (fun q28 => ?_) (fun q28 => ?_)
      · have h := h.1 q28
        refine v_aload_n 34 0 rfl rfl rfl ?_
        refine v_gK 35 rfl fl12_103_11.r (al 53 rfl hn) (wk53 dy) (by decide) rfl (r := 84) (wc53_39 dy) ?_
        refine v_aload_n 36 0 rfl rfl rfl ?_
        refine v_gK 37 rfl fl12_106_11.r (al 53 rfl hn) (wk53 dy) (by decide) rfl (r := 85) (wc53_40 dy) ?_
        refine v_iload_n 38 1 rfl rfl rfl ?_
        refine v_iconst 39 rfl ?_
        refine v_isub 40 rfl ?_
        have c29 := h.1
        have h := h.2
        refine v_ia (N := 60) 41 rfl (al 85 rfl hn) (wk85 dy) (wn85 dy) (by decide) c29 (y := g 85 ((x1 - 1).toNat)) rfl ?_
        refine v_rng fun w30 => ?_
        have p31 : i3 (g 85 ((x1 - 1).toNat)) := rI w30 (q := ((x1 - 1).toNat)) (al 85 rfl hn) (wk85 dy) rfl rfl
        refine v_iconst 42 rfl ?_
        have c32 := h.1
        have h := h.2
        refine v_iast (N := 60) 43 rfl (al 84 rfl hn) (wk84 dy) (wn84 dy) (by decide) c32 (by decide) ?_
        refine v_aload_n 44 0 rfl rfl rfl ?_
        refine v_gK 45 rfl fl12_103_11.r (al 53 rfl hn) (wk53 dy) (by decide) rfl (r := 84) (wc53_39 dy) ?_
        refine v_aload_n 46 0 rfl rfl rfl ?_
        refine v_gK 47 rfl fl12_106_11.r (al 53 rfl hn) (wk53 dy) (by decide) rfl (r := 85) (wc53_40 dy) ?_
        refine v_iload_n 48 3 rfl rfl rfl ?_
        refine v_ia (N := 60) 49 rfl (al 85 rfl hn) (wk85 dy) (wn85 dy) (by decide) c21 (y := g 85 x3.toNat) rfl ?_
        refine v_rng fun w33 => ?_
        have p34 : i3 (g 85 x3.toNat) := rI w33 (q := x3.toNat) (al 85 rfl hn) (wk85 dy) rfl rfl
        refine v_dup2 50 rfl (by intro h; cases h) (by intro h; cases h) ?_
        refine v_ia (N := 60) 51 rfl (al 84 rfl hn) (wk84 dy) (wn84 dy) (by decide) c24 (y := (up2 g 84 ((g 85 ((x1 - 1).toNat)).toNat) 0) 84 ((g 85 x3.toNat).toNat)) rfl ?_
        refine v_rng fun w35 => ?_
        have p36 : i3 ((up2 g 84 ((g 85 ((x1 - 1).toNat)).toNat) 0) 84 ((g 85 x3.toNat).toNat)) := rI w35 (q := ((g 85 x3.toNat).toNat)) (al 84 rfl hn) (wk84 dy) rfl rfl
        refine v_iconst 52 rfl ?_
        refine v_isub 53 rfl ?_
        refine v_nmI (fun y37 ey37 => ?_)
        have h := h y37 ey37
        have c38 := h.1
        have h := h.2
        refine v_iast (N := 60) 54 rfl (al 84 rfl hn) (wk84 dy) (wn84 dy) (by decide) c24 c38 ?_
        refine v_aload_n 55 0 rfl rfl rfl ?_
        refine v_gK 56 rfl fl12_103_11.r (al 53 rfl hn) (wk53 dy) (by decide) rfl (r := 84) (wc53_39 dy) ?_
        refine v_aload_n 57 0 rfl rfl rfl ?_
        refine v_gK 58 rfl fl12_106_11.r (al 53 rfl hn) (wk53 dy) (by decide) rfl (r := 85) (wc53_40 dy) ?_
        refine v_iload_n 59 3 rfl rfl rfl ?_
        refine v_iconst 60 rfl ?_
        refine v_iadd 61 rfl ?_
        have c39 := h.1
        have h := h.2
        refine v_ia (N := 60) 62 rfl (al 85 rfl hn) (wk85 dy) (wn85 dy) (by decide) c39 (y := g 85 ((x3 + 1).toNat)) rfl ?_
        refine v_rng fun w40 => ?_
        have p41 : i3 (g 85 ((x3 + 1).toNat)) := rI w40 (q := ((x3 + 1).toNat)) (al 85 rfl hn) (wk85 dy) rfl rfl
        refine v_iload_n 63 2 rfl rfl rfl ?_
        refine v_iconst 64 rfl ?_
        refine v_iadd 65 rfl ?_
        have c42 := h.1
        have h := h.2
        have c43 := h.1
        have h := h.2
        refine v_iast (N := 60) 66 rfl (al 84 rfl hn) (wk84 dy) (wn84 dy) (by decide) c42 c43 ?_
        refine v_iconst 67 rfl ?_
        exact v_ret (v := some (I_ 1)) 68 rfl (Nat.zero_le _) (Nat.zero_le _) (Or.inr rfl) rfl h
      · have h := h.2 q28
        refine v_iconst 32 rfl ?_
        exact v_ret (v := some (I_ 0)) 33 rfl (Nat.zero_le _) (Nat.zero_le _) (Or.inl rfl) rfl h
    · have h := h.2 q27
      refine v_iinc 28 3 [1, 2, 3, 0] rfl rfl (by decide) rfl ?_
      refine v_goto 29 rfl (tgt := 26) rfl ?_
      exact h
theorem wX12_nextChoice {d n : Nat} {dy : Nat → Shp} {g : Hp} {P : Pst} {x1 : Int} (hn : 100 ≤ n) (h : (i3 x1) ∧ ((x1 ≤ 0) → V miX12_nextChoice d 26 [(0, .ref 53), (1, I_ x1), (2, I_ 0), (3, I_ (x1 - 2))] [] n (W0 dy) g 0 0 P) ∧ ((0 < x1) → (0 ≤ x1 - 1 ∧ x1 - 1 < 60) ∧ (0 ≤ g 85 ((x1 - 1).toNat) ∧ g 85 ((x1 - 1).toNat) < 60) ∧ ∀ y9 : Int, y9 = g 84 ((g 85 ((x1 - 1).toNat)).toNat) → V miX12_nextChoice d 26 [(0, .ref 53), (1, I_ x1), (2, I_ y9), (3, I_ (x1 - 2))] [] n (W0 dy) g 0 0 P)) : Runs miX12_nextChoice d [.ref 53, I_ x1] n (W0 dy) g P := Runs.of rfl rfl deX12_nextChoice (Nat.le_of_ble_eq_true rfl) (bX12_nextChoice_0 hn h)
theorem fl12_340_11 : FL RX12 340 11 41 false .int := ⟨RX12, TX12, 58, "MobileMakerModel", rfl, rfl, by decide, kf11, tbG_in (List.mem_append_right _ (List.mem_of_getElem? (i := 1168) (by decide +kernel))) rfl, Or.inl rfl, rfl, by decide +kernel, ⟨tyX12, tyX12_ok⟩, nmX12, fun h => by cases h⟩
theorem fl12_121_11 : FL RX12 121 11 47 true (.array .int) := ⟨RX12, TX12, 58, "MobileMakerModel", rfl, rfl, by decide, kf11, tbG_in (List.mem_append_right _ (List.mem_of_getElem? (i := 1174) (by decide +kernel))) rfl, Or.inl rfl, rfl, by decide +kernel, ⟨tyX12, tyX12_ok⟩, nmX12, fun _ => rfl⟩
theorem fl12_124_11 : FL RX12 124 11 48 true (.array .int) := ⟨RX12, TX12, 58, "MobileMakerModel", rfl, rfl, by decide, kf11, tbG_in (List.mem_append_right _ (List.mem_of_getElem? (i := 1175) (by decide +kernel))) rfl, Or.inl rfl, rfl, by decide +kernel, ⟨tyX12, tyX12_ok⟩, nmX12, fun _ => rfl⟩
theorem fl12_109_11 : FL RX12 109 11 43 true (.array .long) := ⟨RX12, TX12, 58, "MobileMakerModel", rfl, rfl, by decide, kf11, tbG_in (List.mem_append_right _ (List.mem_of_getElem? (i := 1170) (by decide +kernel))) rfl, Or.inl rfl, rfl, by decide +kernel, ⟨tyX12, tyX12_ok⟩, nmX12, fun _ => rfl⟩
theorem fl12_112_11 : FL RX12 112 11 44 true (.array .long) := ⟨RX12, TX12, 58, "MobileMakerModel", rfl, rfl, by decide, kf11, tbG_in (List.mem_append_right _ (List.mem_of_getElem? (i := 1171) (by decide +kernel))) rfl, Or.inl rfl, rfl, by decide +kernel, ⟨tyX12, tyX12_ok⟩, nmX12, fun _ => rfl⟩
theorem fl12_127_11 : FL RX12 127 11 49 true (.array .long) := ⟨RX12, TX12, 58, "MobileMakerModel", rfl, rfl, by decide, kf11, tbG_in (List.mem_append_right _ (List.mem_of_getElem? (i := 1176) (by decide +kernel))) rfl, Or.inl rfl, rfl, by decide +kernel, ⟨tyX12, tyX12_ok⟩, nmX12, fun _ => rfl⟩
theorem fl12_130_11 : FL RX12 130 11 50 true (.array .long) := ⟨RX12, TX12, 58, "MobileMakerModel", rfl, rfl, by decide, kf11, tbG_in (List.mem_append_right _ (List.mem_of_getElem? (i := 1177) (by decide +kernel))) rfl, Or.inl rfl, rfl, by decide +kernel, ⟨tyX12, tyX12_ok⟩, nmX12, fun _ => rfl⟩
theorem lv12_237_shapes_11 : LkV miX12_shapes miX12_isRod 237 1 11 := ⟨⟨⟨tbG_in (List.mem_append_right _ (List.mem_of_getElem? (i := 1428) (by decide +kernel))) rfl, tbG_in (List.mem_append_right _ (List.mem_of_getElem? (i := 9) (by decide +kernel))) rfl, tbG_in (List.mem_append_right _ (List.mem_of_getElem? (i := 1425) (by decide +kernel))) rfl⟩, ⟨by decide +kernel, by decide +kernel, by decide +kernel⟩, by decide⟩, tbG_in (List.mem_append_right _ (List.mem_of_getElem? (i := 1427) (by decide +kernel))) rfl, RX12, TX12, 58, rfl, tbG_in (List.mem_append_left _ (List.mem_of_getElem? (i := 60) (by decide +kernel))) rfl⟩
theorem lv12_300_shapes_11 : LkV miX12_shapes miX12_arm 300 2 11 := ⟨⟨⟨tbG_in (List.mem_append_right _ (List.mem_of_getElem? (i := 1537) (by decide +kernel))) rfl, tbG_in (List.mem_append_right _ (List.mem_of_getElem? (i := 9) (by decide +kernel))) rfl, tbG_in (List.mem_append_right _ (List.mem_of_getElem? (i := 1534) (by decide +kernel))) rfl⟩, ⟨by decide +kernel, by decide +kernel, by decide +kernel⟩, by decide⟩, tbG_in (List.mem_append_right _ (List.mem_of_getElem? (i := 1536) (by decide +kernel))) rfl, RX12, TX12, 58, rfl, tbG_in (List.mem_append_left _ (List.mem_of_getElem? (i := 76) (by decide +kernel))) rfl⟩
theorem ls12_227_shapes : LkS miX12_shapes miX12_common 227 2 := ⟨⟨⟨tbG_in (List.mem_append_right _ (List.mem_of_getElem? (i := 1404) (by decide +kernel))) rfl, tbG_in (List.mem_append_right _ (List.mem_of_getElem? (i := 9) (by decide +kernel))) rfl, tbG_in (List.mem_append_right _ (List.mem_of_getElem? (i := 1402) (by decide +kernel))) rfl⟩, ⟨by decide +kernel, by decide +kernel, by decide +kernel⟩, by decide⟩, tbG_in (List.mem_append_right _ (List.mem_of_getElem? (i := 1403) (by decide +kernel))) rfl⟩
theorem lv12_297_shapes_11 : LkV miX12_shapes miX12_isWhole 297 1 11 := ⟨⟨⟨tbG_in (List.mem_append_right _ (List.mem_of_getElem? (i := 1533) (by decide +kernel))) rfl, tbG_in (List.mem_append_right _ (List.mem_of_getElem? (i := 9) (by decide +kernel))) rfl, tbG_in (List.mem_append_right _ (List.mem_of_getElem? (i := 1530) (by decide +kernel))) rfl⟩, ⟨by decide +kernel, by decide +kernel, by decide +kernel⟩, by decide⟩, tbG_in (List.mem_append_right _ (List.mem_of_getElem? (i := 1532) (by decide +kernel))) rfl, RX12, TX12, 58, rfl, tbG_in (List.mem_append_left _ (List.mem_of_getElem? (i := 75) (by decide +kernel))) rfl⟩
theorem lv12_345_shapes_11 : LkV miX12_shapes miX12_shapesOn 345 1 11 := ⟨⟨⟨tbG_in (List.mem_append_right _ (List.mem_of_getElem? (i := 1610) (by decide +kernel))) rfl, tbG_in (List.mem_append_right _ (List.mem_of_getElem? (i := 9) (by decide +kernel))) rfl, tbG_in (List.mem_append_right _ (List.mem_of_getElem? (i := 1607) (by decide +kernel))) rfl⟩, ⟨by decide +kernel, by decide +kernel, by decide +kernel⟩, by decide⟩, tbG_in (List.mem_append_right _ (List.mem_of_getElem? (i := 1609) (by decide +kernel))) rfl, RX12, TX12, 58, rfl, tbG_in (List.mem_append_left _ (List.mem_of_getElem? (i := 89) (by decide +kernel))) rfl⟩
set_option maxHeartbeats 8000000 in
set_option maxRecDepth 4000 in
theorem bX12_shapes_0 {d n : Nat} {dy : Nat → Shp} {g : Hp} {P : Pst} {x1 : Int} (hn : 100 ≤ n) (h : (i3 x1) ∧ (0 ≤ x1 ∧ x1 < 60) ∧ V miX12_shapes (d + 1) 35 [(0, .ref 53), (1, I_ x1), (2, I_ 1)] [] n (W0 dy) (up2 (up2 (up2 (up2 (up2 g 53 41 0) 90 0 x1) 91 0 ((-1))) 86 x1.toNat 1) 87 x1.toNat 1) 0 0 P) : V miX12_shapes (d + 1) 0 [(0, .ref 53), (1, I_ x1)] [] n (W0 dy) g 0 0 P := by
  refine v_aload_n 0 0 rfl rfl rfl ?_
  refine v_iconst 1 rfl ?_
  refine v_putI 2 rfl fl12_340_11 (al 53 rfl hn) (wk53 dy) (by decide) rfl (wc53_41 dy) (by decide) ?_
  refine v_iconst 3 rfl ?_
  refine v_istore_n 4 [1, 2, 0] rfl rfl (by decide) rfl ?_
  refine v_aload_n 5 0 rfl rfl rfl ?_
  refine v_gK 6 rfl fl12_121_11.r (al 53 rfl hn) (wk53 dy) (by decide) rfl (r := 90) (wc53_47 dy) ?_
  refine v_iconst 7 rfl ?_
  refine v_iload_n 8 1 rfl rfl rfl ?_
  have c1 := h.1
  have h := h.2
  refine v_iast (N := 200) 9 rfl (al 90 rfl hn) (wk90 dy) (wn90 dy) (by decide) (by decide) c1 ?_
  refine v_aload_n 10 0 rfl rfl rfl ?_
  refine v_gK 11 rfl fl12_124_11.r (al 53 rfl hn) (wk53 dy) (by decide) rfl (r := 91) (wc53_48 dy) ?_
  refine v_iconst 12 rfl ?_
  refine v_iconst 13 rfl ?_
  refine v_iast (N := 200) 14 rfl (al 91 rfl hn) (wk91 dy) (wn91 dy) (by decide) (by decide) (by decide) ?_
  refine v_aload_n 15 0 rfl rfl rfl ?_
  refine v_gK 16 rfl fl12_109_11.r (al 53 rfl hn) (wk53 dy) (by decide) rfl (r := 86) (wc53_43 dy) ?_
  refine v_iload_n 17 1 rfl rfl rfl ?_
  refine v_lconst (v := 1) 18 rfl (by decide) ?_
  have c2 := h.1
  have h := h.2
  refine v_last (N := 60) 19 rfl (al 86 rfl hn) (wk86 dy) (wn86 dy) (by decide) c2 (by decide) ?_
  refine v_aload_n 20 0 rfl rfl rfl ?_
  refine v_gK 21 rfl fl12_112_11.r (al 53 rfl hn) (wk53 dy) (by decide) rfl (r := 87) (wc53_44 dy) ?_
  refine v_iload_n 22 1 rfl rfl rfl ?_
  refine v_lconst (v := 1) 23 rfl (by decide) ?_
  refine v_last (N := 60) 24 rfl (al 87 rfl hn) (wk87 dy) (wn87 dy) (by decide) c2 (by decide) ?_
  exact h
set_option maxHeartbeats 8000000 in
set_option maxRecDepth 4000 in
theorem bX12_shapes_35 {d n : Nat} {dy : Nat → Shp} {g : Hp} {P : Pst} {x1 : Int} {x2 : Int} (hn : 100 ≤ n) (h : (i3 x2) ∧ ((x2 ≤ 0) → ((2 ≤ (g 53 41)) → P (some (I_ 0)) n (W0 dy) g) ∧ (((g 53 41) < 2) → P (some (I_ 9)) n (W0 dy) g)) ∧ ((0 < x2) → (0 ≤ x2 + (-1) ∧ x2 + (-1) < 200) ∧ (((g 91 ((x2 + (-1)).toNat)) < 0) → Runs miX12_isRod d [.ref 53, I_ (g 90 ((x2 + (-1)).toNat))] n (W0 dy) g (fun v n' S' g' => V miX12_shapes (d + 1) 192 [(0, .ref 53), (1, I_ x1), (2, I_ (x2 + (-1))), (3, I_ (g 90 ((x2 + (-1)).toNat)))] (v.toList ++ []) n' S' g' 0 0 P)) ∧ ((0 ≤ (g 91 ((x2 + (-1)).toNat))) → (((g 53 41) ≠ 8) → (0 ≤ g 90 ((x2 + (-1)).toNat) ∧ g 90 ((x2 + (-1)).toNat) < 60) ∧ Runs miX12_arm d [.ref 53, I_ (g 90 ((x2 + (-1)).toNat)), I_ (1 - (g 91 ((x2 + (-1)).toNat)))] n (W0 dy) g (fun v n' S' g' => V miX12_shapes (d + 1) 97 [(0, .ref 53), (1, I_ x1), (2, I_ (x2 + (-1))), (3, I_ (g 90 ((x2 + (-1)).toNat)))] (v.toList ++ [L_ (g 86 ((g 90 ((x2 + (-1)).toNat)).toNat)), I_ (g 53 41), .ref 92]) n' S' g' 0 0 P)) ∧ (((g 53 41) = 8) → P (some (I_ 9)) n (W0 dy) g)))) : V miX12_shapes (d + 1) 35 [(0, .ref 53), (1, I_ x1), (2, I_ x2)] [] n (W0 dy) g 0 0 P := by
  refine v_iload_n 25 2 rfl rfl rfl ?_
  have c1 := h.1
  have h := h.2
  refine v_if_le 26 rfl (tgt := 415) rfl c1 (fun q2 => ?_) (fun q2 => ?_)
  · have h := h.1 q2
    refine v_aload_n 244 0 rfl rfl rfl ?_
    refine v_gI 245 rfl fl12_340_11.r (al 53 rfl hn) (wk53 dy) (by decide) rfl (wc53_41 dy) (x := g 53 41) rfl ?_
    refine v_rng fun w3 => ?_
    have p4 : i3 (g 53 41) := rI w3 (q := 41) (al 53 rfl hn) (wk53 dy) rfl rfl
    refine v_iconst 246 rfl ?_
    refine v_icmp_ge 247 rfl (tgt := 428) rfl p4 (by decide) (fun q5 => ?_) (fun q5 => ?_)
    · have h := h.1 q5
      refine v_iconst 250 rfl ?_
      exact v_ret (v := some (I_ 0)) 251 rfl (Nat.zero_le _) (Nat.zero_le _) trivial rfl h
    · have h := h.2 q5
      refine v_bipush 248 rfl (by decide) ?_
      refine v_goto 249 rfl (tgt := 429) rfl ?_
      exact v_ret (v := some (I_ 9)) 251 rfl (Nat.zero_le _) (Nat.zero_le _) trivial rfl h
  · have h := h.2 q2
    refine v_iinc 27 2 [1, 2, 0] rfl rfl (by decide) rfl ?_
    refine v_aload_n 28 0 rfl rfl rfl ?_
    refine v_gK 29 rfl fl12_121_11.r (al 53 rfl hn) (wk53 dy) (by decide) rfl (r := 90) (wc53_47 dy) ?_
    refine v_iload_n 30 2 rfl rfl rfl ?_
    have c6 := h.1
    have h := h.2
    refine v_ia (N := 200) 31 rfl (al 90 rfl hn) (wk90 dy) (wn90 dy) (by decide) c6 (y := g 90 ((x2 + (-1)).toNat)) rfl ?_
    refine v_rng fun w7 => ?_
    have p8 : i3 (g 90 ((x2 + (-1)).toNat)) := rI w7 (q := ((x2 + (-1)).toNat)) (al 90 rfl hn) (wk90 dy) rfl rfl
    refine v_istore_n 32 [1, 2, 3, 0] rfl rfl (by decide) rfl ?_
    refine v_aload_n 33 0 rfl rfl rfl ?_
    refine v_gK 34 rfl fl12_124_11.r (al 53 rfl hn) (wk53 dy) (by decide) rfl (r := 91) (wc53_48 dy) ?_
    refine v_iload_n 35 2 rfl rfl rfl ?_
    refine v_ia (N := 200) 36 rfl (al 91 rfl hn) (wk91 dy) (wn91 dy) (by decide) c6 (y := g 91 ((x2 + (-1)).toNat)) rfl ?_
    refine v_rng fun w9 => ?_
    have p10 : i3 (g 91 ((x2 + (-1)).toNat)) := rI w9 (q := ((x2 + (-1)).toNat)) (al 91 rfl hn) (wk91 dy) rfl rfl
    refine v_if_lt 37 rfl (tgt := 187) rfl p10 (fun q11 => ?_) (fun q11 => ?_)
    · have h := h.1 q11
      refine v_aload_n 116 0 rfl rfl rfl ?_
      refine v_iload_n 117 3 rfl rfl rfl ?_
      refine v_callV (st := []) [I_ (g 90 ((x2 + (-1)).toNat))] 118 rfl lv12_237_shapes_11 (al 53 rfl hn) (wk53 dy) (by decide) rfl (Nat.le_refl _) (Nat.le_refl _) ?_
      exact h
    · have h := h.2 q11
      refine v_aload_n 38 0 rfl rfl rfl ?_
      refine v_gI 39 rfl fl12_340_11.r (al 53 rfl hn) (wk53 dy) (by decide) rfl (wc53_41 dy) (x := g 53 41) rfl ?_
      refine v_rng fun w12 => ?_
      have p13 : i3 (g 53 41) := rI w12 (q := 41) (al 53 rfl hn) (wk53 dy) rfl rfl
      refine v_bipush 40 rfl (by decide) ?_
      refine v_icmp_ne 41 rfl (tgt := 70) rfl p13 (by decide) (fun q14 => ?_) (fun q14 => ?_)
      · have h := h.1 q14
        refine v_aload_n 44 0 rfl rfl rfl ?_
        refine v_gK 45 rfl fl12_127_11.r (al 53 rfl hn) (wk53 dy) (by decide) rfl (r := 92) (wc53_49 dy) ?_
        refine v_aload_n 46 0 rfl rfl rfl ?_
        refine v_gI 47 rfl fl12_340_11.r (al 53 rfl hn) (wk53 dy) (by decide) rfl (wc53_41 dy) (x := g 53 41) rfl ?_
        refine v_rng fun w15 => ?_
        have p16 : i3 (g 53 41) := rI w15 (q := 41) (al 53 rfl hn) (wk53 dy) rfl rfl
        refine v_aload_n 48 0 rfl rfl rfl ?_
        refine v_gK 49 rfl fl12_109_11.r (al 53 rfl hn) (wk53 dy) (by decide) rfl (r := 86) (wc53_43 dy) ?_
        refine v_iload_n 50 3 rfl rfl rfl ?_
        have c17 := h.1
        have h := h.2
        refine v_la (N := 60) 51 rfl (al 86 rfl hn) (wk86 dy) (wn86 dy) (by decide) c17 (y := g 86 ((g 90 ((x2 + (-1)).toNat)).toNat)) rfl ?_
        refine v_rng fun w18 => ?_
        have p19 : i6 (g 86 ((g 90 ((x2 + (-1)).toNat)).toNat)) := rL w18 (q := ((g 90 ((x2 + (-1)).toNat)).toNat)) (al 86 rfl hn) (wk86 dy) rfl rfl
        refine v_aload_n 52 0 rfl rfl rfl ?_
        refine v_iload_n 53 3 rfl rfl rfl ?_
        refine v_iconst 54 rfl ?_
        refine v_aload_n 55 0 rfl rfl rfl ?_
        refine v_gK 56 rfl fl12_124_11.r (al 53 rfl hn) (wk53 dy) (by decide) rfl (r := 91) (wc53_48 dy) ?_
        refine v_iload_n 57 2 rfl rfl rfl ?_
        refine v_ia (N := 200) 58 rfl (al 91 rfl hn) (wk91 dy) (wn91 dy) (by decide) c6 (y := g 91 ((x2 + (-1)).toNat)) rfl ?_
        refine v_rng fun w20 => ?_
        have p21 : i3 (g 91 ((x2 + (-1)).toNat)) := rI w20 (q := ((x2 + (-1)).toNat)) (al 91 rfl hn) (wk91 dy) rfl rfl
        refine v_isub 59 rfl ?_
        refine v_callV (st := [L_ (g 86 ((g 90 ((x2 + (-1)).toNat)).toNat)), I_ (g 53 41), .ref 92]) [I_ (g 90 ((x2 + (-1)).toNat)), I_ (1 - (g 91 ((x2 + (-1)).toNat)))] 60 rfl lv12_300_shapes_11 (al 53 rfl hn) (wk53 dy) (by decide) rfl (Nat.le_refl _) (Nat.le_refl _) ?_
        exact h
      · have h := h.2 q14
        refine v_bipush 42 rfl (by decide) ?_
        exact v_ret (v := some (I_ 9)) 43 rfl (Nat.zero_le _) (Nat.zero_le _) trivial rfl h
set_option maxHeartbeats 8000000 in
set_option maxRecDepth 4000 in
theorem bX12_shapes_97 {d n : Nat} {dy : Nat → Shp} {g : Hp} {P : Pst} {x1 : Int} {x2 : Int} {x3 : Int} {xs1 : Int} {xs2 : Int} {xs3 : Int} (hn : 100 ≤ n) (h : (i3 xs3) ∧ (0 ≤ xs1 ∧ xs1 < 8) ∧ (i6 (xs2 * xs3)) ∧ (0 ≤ x3 ∧ x3 < 60) ∧ ∀ y11 : Int, y11 = (g 87 x3.toNat) * (g 59 x3.toNat) → (0 ≤ g 53 41 ∧ g 53 41 < 8) ∧ (i6 y11) ∧ Runs miX12_common d [L_ ((up2 g 92 xs1.toNat (xs2 * xs3)) 92 ((g 53 41).toNat)), L_ ((up2 (up2 g 92 xs1.toNat (xs2 * xs3)) 93 ((g 53 41).toNat) y11) 93 ((g 53 41).toNat))] n (W0 dy) (up2 (up2 g 92 xs1.toNat (xs2 * xs3)) 93 ((g 53 41).toNat) y11) (fun v n' S' g' => V miX12_shapes (d + 1) 144 [(0, .ref 53), (1, I_ x1), (2, I_ x2), (3, I_ x3)] (v.toList ++ []) n' S' g' 0 0 P)) : V miX12_shapes (d + 1) 97 [(0, .ref 53), (1, I_ x1), (2, I_ x2), (3, I_ x3)] [I_ xs3, L_ xs2, I_ xs1, .ref 92] n (W0 dy) g 0 0 P := by
  have c1 := h.1
  have h := h.2
  refine v_i2l 61 rfl c1 ?_
  refine v_lmul 62 rfl ?_
  have c2 := h.1
  have h := h.2
  have c3 := h.1
  have h := h.2
  refine v_last (N := 8) 63 rfl (al 92 rfl hn) (wk92 dy) (wn92 dy) (by decide) c2 c3 ?_
  refine v_aload_n 64 0 rfl rfl rfl ?_
  refine v_gK 65 rfl fl12_130_11.r (al 53 rfl hn) (wk53 dy) (by decide) rfl (r := 93) (wc53_50 dy) ?_
  refine v_aload_n 66 0 rfl rfl rfl ?_
  refine v_gI 67 rfl fl12_340_11.r (al 53 rfl hn) (wk53 dy) (by decide) rfl (wc53_41 dy) (x := g 53 41) rfl ?_
  refine v_rng fun w4 => ?_
  have p5 : i3 (g 53 41) := rI w4 (q := 41) (al 53 rfl hn) (wk53 dy) rfl rfl
  refine v_aload_n 68 0 rfl rfl rfl ?_
  refine v_gK 69 rfl fl12_112_11.r (al 53 rfl hn) (wk53 dy) (by decide) rfl (r := 87) (wc53_44 dy) ?_
  refine v_iload_n 70 3 rfl rfl rfl ?_
  have c6 := h.1
  have h := h.2
  refine v_la (N := 60) 71 rfl (al 87 rfl hn) (wk87 dy) (wn87 dy) (by decide) c6 (y := g 87 x3.toNat) rfl ?_
  refine v_rng fun w7 => ?_
  have p8 : i6 (g 87 x3.toNat) := rL w7 (q := x3.toNat) (al 87 rfl hn) (wk87 dy) rfl rfl
  refine v_aload_n 72 0 rfl rfl rfl ?_
  refine v_gK 73 rfl fl12_26_11.r (al 53 rfl hn) (wk53 dy) (by decide) rfl (r := 59) (wc53_8 dy) ?_
  refine v_iload_n 74 3 rfl rfl rfl ?_
  refine v_ia (N := 60) 75 rfl (al 59 rfl hn) (wk59 dy) (wn59 dy) (by decide) c6 (y := g 59 x3.toNat) rfl ?_
  refine v_rng fun w9 => ?_
  have p10 : i3 (g 59 x3.toNat) := rI w9 (q := x3.toNat) (al 59 rfl hn) (wk59 dy) rfl rfl
  refine v_i2l 76 rfl p10 ?_
  refine v_lmul 77 rfl ?_
  refine v_nmL (fun y11 ey11 => ?_)
  have h := h y11 ey11
  have c12 := h.1
  have h := h.2
  have c13 := h.1
  have h := h.2
  refine v_last (N := 8) 78 rfl (al 93 rfl hn) (wk93 dy) (wn93 dy) (by decide) c12 c13 ?_
  refine v_aload_n 79 0 rfl rfl rfl ?_
  refine v_gK 80 rfl fl12_127_11.r (al 53 rfl hn) (wk53 dy) (by decide) rfl (r := 92) (wc53_49 dy) ?_
  refine v_aload_n 81 0 rfl rfl rfl ?_
  refine v_gI 82 rfl fl12_340_11.r (al 53 rfl hn) (wk53 dy) (by decide) rfl (wc53_41 dy) (x := g 53 41) rfl ?_
  refine v_rng fun w14 => ?_
  have p15 : i3 (g 53 41) := rI w14 (q := 41) (al 53 rfl hn) (wk53 dy) rfl rfl
  refine v_la (N := 8) 83 rfl (al 92 rfl hn) (wk92 dy) (wn92 dy) (by decide) c12 (y := (up2 g 92 xs1.toNat (xs2 * xs3)) 92 ((g 53 41).toNat)) rfl ?_
  refine v_rng fun w16 => ?_
  have p17 : i6 ((up2 g 92 xs1.toNat (xs2 * xs3)) 92 ((g 53 41).toNat)) := rL w16 (q := ((g 53 41).toNat)) (al 92 rfl hn) (wk92 dy) rfl rfl
  refine v_aload_n 84 0 rfl rfl rfl ?_
  refine v_gK 85 rfl fl12_130_11.r (al 53 rfl hn) (wk53 dy) (by decide) rfl (r := 93) (wc53_50 dy) ?_
  refine v_aload_n 86 0 rfl rfl rfl ?_
  refine v_gI 87 rfl fl12_340_11.r (al 53 rfl hn) (wk53 dy) (by decide) rfl (wc53_41 dy) (x := g 53 41) rfl ?_
  refine v_rng fun w18 => ?_
  have p19 : i3 (g 53 41) := rI w18 (q := 41) (al 53 rfl hn) (wk53 dy) rfl rfl
  refine v_la (N := 8) 88 rfl (al 93 rfl hn) (wk93 dy) (wn93 dy) (by decide) c12 (y := (up2 (up2 g 92 xs1.toNat (xs2 * xs3)) 93 ((g 53 41).toNat) y11) 93 ((g 53 41).toNat)) rfl ?_
  refine v_rng fun w20 => ?_
  have p21 : i6 ((up2 (up2 g 92 xs1.toNat (xs2 * xs3)) 93 ((g 53 41).toNat) y11) 93 ((g 53 41).toNat)) := rL w20 (q := ((g 53 41).toNat)) (al 93 rfl hn) (wk93 dy) rfl rfl
  refine v_callS (st := []) [L_ ((up2 g 92 xs1.toNat (xs2 * xs3)) 92 ((g 53 41).toNat)), L_ ((up2 (up2 g 92 xs1.toNat (xs2 * xs3)) 93 ((g 53 41).toNat) y11) 93 ((g 53 41).toNat))] 89 rfl ls12_227_shapes rfl (Nat.lt_of_lt_of_le (by decide) hn) (Nat.le_refl _) (Nat.le_refl _) ?_
  exact h
set_option maxHeartbeats 8000000 in
set_option maxRecDepth 4000 in
theorem bX12_shapes_144 {d n : Nat} {dy : Nat → Shp} {g : Hp} {P : Pst} {x1 : Int} {x2 : Int} {x3 : Int} {xs0 : Int} (hn : 100 ≤ n) (h : (0 ≤ g 53 41 ∧ g 53 41 < 8) ∧ (i6 xs0) ∧ (xs0 ≠ 0) ∧ ∀ y8 : Int, y8 = (g 92 ((g 53 41).toNat)).tdiv xs0 → (i6 y8) ∧ (xs0 ≠ 0) ∧ ∀ y15 : Int, y15 = (g 93 ((g 53 41).toNat)).tdiv xs0 → (i6 y15) ∧ (i3 ((g 53 41) + 1)) ∧ V miX12_shapes (d + 1) 35 [(0, .ref 53), (1, I_ x1), (2, I_ x2)] [] n (W0 dy) (up2 (up2 (up2 g 92 ((g 53 41).toNat) y8) 93 ((g 53 41).toNat) y15) 53 41 ((g 53 41) + 1)) 0 0 P) : V miX12_shapes (d + 1) 144 [(0, .ref 53), (1, I_ x1), (2, I_ x2), (3, I_ x3)] [L_ xs0] n (W0 dy) g 0 0 P := by
  refine v_lstore 90 [1, 2, 3, 4, 0] rfl (by decide) rfl ?_
  refine v_aload_n 91 0 rfl rfl rfl ?_
  refine v_gK 92 rfl fl12_127_11.r (al 53 rfl hn) (wk53 dy) (by decide) rfl (r := 92) (wc53_49 dy) ?_
  refine v_aload_n 93 0 rfl rfl rfl ?_
  refine v_gI 94 rfl fl12_340_11.r (al 53 rfl hn) (wk53 dy) (by decide) rfl (wc53_41 dy) (x := g 53 41) rfl ?_
  refine v_rng fun w1 => ?_
  have p2 : i3 (g 53 41) := rI w1 (q := 41) (al 53 rfl hn) (wk53 dy) rfl rfl
  refine v_dup2 95 rfl (by intro h; cases h) (by intro h; cases h) ?_
  have c3 := h.1
  have h := h.2
  refine v_la (N := 8) 96 rfl (al 92 rfl hn) (wk92 dy) (wn92 dy) (by decide) c3 (y := g 92 ((g 53 41).toNat)) rfl ?_
  refine v_rng fun w4 => ?_
  have p5 : i6 (g 92 ((g 53 41).toNat)) := rL w4 (q := ((g 53 41).toNat)) (al 92 rfl hn) (wk92 dy) rfl rfl
  refine v_lload 97 4 rfl rfl ?_
  have c6 := h.1
  have h := h.2
  have c7 := h.1
  have h := h.2
  refine v_ldiv 98 rfl p5 c6 c7 ?_
  refine v_nmL (fun y8 ey8 => ?_)
  have h := h y8 ey8
  have c9 := h.1
  have h := h.2
  refine v_last (N := 8) 99 rfl (al 92 rfl hn) (wk92 dy) (wn92 dy) (by decide) c3 c9 ?_
  refine v_aload_n 100 0 rfl rfl rfl ?_
  refine v_gK 101 rfl fl12_130_11.r (al 53 rfl hn) (wk53 dy) (by decide) rfl (r := 93) (wc53_50 dy) ?_
  refine v_aload_n 102 0 rfl rfl rfl ?_
  refine v_gI 103 rfl fl12_340_11.r (al 53 rfl hn) (wk53 dy) (by decide) rfl (wc53_41 dy) (x := g 53 41) rfl ?_
  refine v_rng fun w10 => ?_
  have p11 : i3 (g 53 41) := rI w10 (q := 41) (al 53 rfl hn) (wk53 dy) rfl rfl
  refine v_dup2 104 rfl (by intro h; cases h) (by intro h; cases h) ?_
  refine v_la (N := 8) 105 rfl (al 93 rfl hn) (wk93 dy) (wn93 dy) (by decide) c3 (y := g 93 ((g 53 41).toNat)) rfl ?_
  refine v_rng fun w12 => ?_
  have p13 : i6 (g 93 ((g 53 41).toNat)) := rL w12 (q := ((g 53 41).toNat)) (al 93 rfl hn) (wk93 dy) rfl rfl
  refine v_lload 106 4 rfl rfl ?_
  have c14 := h.1
  have h := h.2
  refine v_ldiv 107 rfl p13 c6 c14 ?_
  refine v_nmL (fun y15 ey15 => ?_)
  have h := h y15 ey15
  have c16 := h.1
  have h := h.2
  refine v_last (N := 8) 108 rfl (al 93 rfl hn) (wk93 dy) (wn93 dy) (by decide) c3 c16 ?_
  refine v_aload_n 109 0 rfl rfl rfl ?_
  refine v_dup 110 rfl (by intro h; cases h) ?_
  refine v_gI 111 rfl fl12_340_11.r (al 53 rfl hn) (wk53 dy) (by decide) rfl (wc53_41 dy) (x := g 53 41) rfl ?_
  refine v_rng fun w17 => ?_
  have p18 : i3 (g 53 41) := rI w17 (q := 41) (al 53 rfl hn) (wk53 dy) rfl rfl
  refine v_iconst 112 rfl ?_
  refine v_iadd 113 rfl ?_
  have c19 := h.1
  have h := h.2
  refine v_putI 114 rfl fl12_340_11 (al 53 rfl hn) (wk53 dy) (by decide) rfl (wc53_41 dy) c19 ?_
  refine v_goto 115 rfl (tgt := 35) rfl ?_
  refine v_loc [0, 1, 2] rfl ?_
  exact h
set_option maxHeartbeats 8000000 in
set_option maxRecDepth 4000 in
theorem bX12_shapes_192 {d n : Nat} {dy : Nat → Shp} {g : Hp} {P : Pst} {x1 : Int} {x2 : Int} {x3 : Int} {xs0 : Int} (hn : 100 ≤ n) (h : (i3 xs0) ∧ ((xs0 = 0) → P (some (I_ 9)) n (W0 dy) g) ∧ ((xs0 ≠ 0) → (0 ≤ x3 ∧ x3 < 60) ∧ (((g 58 x3.toNat) ≠ 0) → P (some (I_ 9)) n (W0 dy) g) ∧ (((g 58 x3.toNat) = 0) → Runs miX12_isWhole d [.ref 53, I_ x3] n (W0 dy) g (fun v n' S' g' => V miX12_shapes (d + 1) 209 [(0, .ref 53), (1, I_ x1), (2, I_ x2), (3, I_ x3)] (v.toList ++ []) n' S' g' 0 0 P)))) : V miX12_shapes (d + 1) 192 [(0, .ref 53), (1, I_ x1), (2, I_ x2), (3, I_ x3)] [I_ xs0] n (W0 dy) g 0 0 P := by
  have c1 := h.1
  have h := h.2
  refine v_if_eq 119 rfl (tgt := 212) rfl c1 (fun q2 => ?_) (fun q2 => ?_)
  · have h := h.1 q2
    refine v_bipush 129 rfl (by decide) ?_
    exact v_ret (v := some (I_ 9)) 130 rfl (Nat.zero_le _) (Nat.zero_le _) trivial rfl h
  · have h := h.2 q2
    refine v_aload_n 120 0 rfl rfl rfl ?_
    refine v_gK 121 rfl fl12_23_11.r (al 53 rfl hn) (wk53 dy) (by decide) rfl (r := 58) (wc53_7 dy) ?_
    refine v_iload_n 122 3 rfl rfl rfl ?_
    have c3 := h.1
    have h := h.2
    refine v_ia (N := 60) 123 rfl (al 58 rfl hn) (wk58 dy) (wn58 dy) (by decide) c3 (y := g 58 x3.toNat) rfl ?_
    refine v_rng fun w4 => ?_
    have p5 : i3 (g 58 x3.toNat) := rI w4 (q := x3.toNat) (al 58 rfl hn) (wk58 dy) rfl rfl
    refine v_if_ne 124 rfl (tgt := 212) rfl p5 (fun q6 => ?_) (fun q6 => ?_)
    · have h := h.1 q6
      refine v_bipush 129 rfl (by decide) ?_
      exact v_ret (v := some (I_ 9)) 130 rfl (Nat.zero_le _) (Nat.zero_le _) trivial rfl h
    · have h := h.2 q6
      refine v_aload_n 125 0 rfl rfl rfl ?_
      refine v_iload_n 126 3 rfl rfl rfl ?_
      refine v_callV (st := []) [I_ x3] 127 rfl lv12_297_shapes_11 (al 53 rfl hn) (wk53 dy) (by decide) rfl (Nat.le_refl _) (Nat.le_refl _) ?_
      exact h
set_option maxHeartbeats 8000000 in
set_option maxRecDepth 4000 in
theorem bX12_shapes_209 {d n : Nat} {dy : Nat → Shp} {g : Hp} {P : Pst} {x1 : Int} {x2 : Int} {x3 : Int} {xs0 : Int} (hn : 100 ≤ n) (h : (i3 xs0) ∧ ((xs0 ≠ 0) → V miX12_shapes (d + 1) 218 [(0, .ref 53), (1, I_ x1), (2, I_ x2), (3, I_ x3), (4, I_ 1)] [] n (W0 dy) g 0 0 P) ∧ ((xs0 = 0) → P (some (I_ 9)) n (W0 dy) g)) : V miX12_shapes (d + 1) 209 [(0, .ref 53), (1, I_ x1), (2, I_ x2), (3, I_ x3)] [I_ xs0] n (W0 dy) g 0 0 P := by
  have c1 := h.1
  have h := h.2
  refine v_if_ne 128 rfl (tgt := 215) rfl c1 (fun q2 => ?_) (fun q2 => ?_)
  · have h := h.1 q2
    refine v_iconst 131 rfl ?_
    refine v_istore 132 [1, 2, 3, 4, 0] rfl (by decide) rfl ?_
    exact h
  · have h := h.2 q2
    refine v_bipush 129 rfl (by decide) ?_
    exact v_ret (v := some (I_ 9)) 130 rfl (Nat.zero_le _) (Nat.zero_le _) trivial rfl h
set_option maxHeartbeats 8000000 in
set_option maxRecDepth 4000 in
theorem bX12_shapes_218 {d n : Nat} {dy : Nat → Shp} {g : Hp} {P : Pst} {x1 : Int} {x2 : Int} {x3 : Int} {x4 : Int} (hn : 100 ≤ n) (h : (i3 x4) ∧ ((x4 < 0) → V miX12_shapes (d + 1) 35 [(0, .ref 53), (1, I_ x1), (2, I_ x2)] [] n (W0 dy) g 0 0 P) ∧ ((0 ≤ x4) → ((x4 ≠ 0) → (0 ≤ x3 ∧ x3 < 60) ∧ ((0 ≤ (g 67 x3.toNat)) → (0 ≤ x2 ∧ x2 < 200) ∧ ((0 ≤ (g 67 x3.toNat)) → ((0 ≤ (g 67 x3.toNat)) → Runs miX12_arm d [.ref 53, I_ x3, I_ (1 - x4)] n (W0 dy) (up2 (up2 g 90 x2.toNat (g 67 x3.toNat)) 91 x2.toNat ((-1))) (fun v n' S' g' => V miX12_shapes (d + 1) 311 [(0, .ref 53), (1, I_ x1), (2, I_ (x2 + 1)), (3, I_ x3), (4, I_ x4), (5, I_ (g 67 x3.toNat))] (v.toList ++ [L_ (g 86 x3.toNat), I_ (g 67 x3.toNat), .ref 86]) n' S' g' 0 0 P)) ∧ (((g 67 x3.toNat) < 0) → V miX12_shapes (d + 1) 218 [(0, .ref 53), (1, I_ x1), (2, I_ (x2 + 1)), (3, I_ x3), (4, I_ (x4 + (-1)))] [] n (W0 dy) (up2 (up2 g 90 x2.toNat (g 67 x3.toNat)) 91 x2.toNat ((-1))) 0 0 P)) ∧ (((g 67 x3.toNat) < 0) → ((0 ≤ (g 67 x3.toNat)) → Runs miX12_arm d [.ref 53, I_ x3, I_ (1 - x4)] n (W0 dy) (up2 (up2 g 90 x2.toNat (g 67 x3.toNat)) 91 x2.toNat x4) (fun v n' S' g' => V miX12_shapes (d + 1) 311 [(0, .ref 53), (1, I_ x1), (2, I_ (x2 + 1)), (3, I_ x3), (4, I_ x4), (5, I_ (g 67 x3.toNat))] (v.toList ++ [L_ (g 86 x3.toNat), I_ (g 67 x3.toNat), .ref 86]) n' S' g' 0 0 P)) ∧ (((g 67 x3.toNat) < 0) → V miX12_shapes (d + 1) 218 [(0, .ref 53), (1, I_ x1), (2, I_ (x2 + 1)), (3, I_ x3), (4, I_ (x4 + (-1)))] [] n (W0 dy) (up2 (up2 g 90 x2.toNat (g 67 x3.toNat)) 91 x2.toNat x4) 0 0 P))) ∧ (((g 67 x3.toNat) < 0) → (0 ≤ x2 ∧ x2 < 200) ∧ ((0 ≤ (g 67 x3.toNat)) → ((0 ≤ (g 67 x3.toNat)) → Runs miX12_arm d [.ref 53, I_ x3, I_ (1 - x4)] n (W0 dy) (up2 (up2 g 90 x2.toNat x3) 91 x2.toNat ((-1))) (fun v n' S' g' => V miX12_shapes (d + 1) 311 [(0, .ref 53), (1, I_ x1), (2, I_ (x2 + 1)), (3, I_ x3), (4, I_ x4), (5, I_ (g 67 x3.toNat))] (v.toList ++ [L_ (g 86 x3.toNat), I_ (g 67 x3.toNat), .ref 86]) n' S' g' 0 0 P)) ∧ (((g 67 x3.toNat) < 0) → V miX12_shapes (d + 1) 218 [(0, .ref 53), (1, I_ x1), (2, I_ (x2 + 1)), (3, I_ x3), (4, I_ (x4 + (-1)))] [] n (W0 dy) (up2 (up2 g 90 x2.toNat x3) 91 x2.toNat ((-1))) 0 0 P)) ∧ (((g 67 x3.toNat) < 0) → ((0 ≤ (g 67 x3.toNat)) → Runs miX12_arm d [.ref 53, I_ x3, I_ (1 - x4)] n (W0 dy) (up2 (up2 g 90 x2.toNat x3) 91 x2.toNat x4) (fun v n' S' g' => V miX12_shapes (d + 1) 311 [(0, .ref 53), (1, I_ x1), (2, I_ (x2 + 1)), (3, I_ x3), (4, I_ x4), (5, I_ (g 67 x3.toNat))] (v.toList ++ [L_ (g 86 x3.toNat), I_ (g 67 x3.toNat), .ref 86]) n' S' g' 0 0 P)) ∧ (((g 67 x3.toNat) < 0) → V miX12_shapes (d + 1) 218 [(0, .ref 53), (1, I_ x1), (2, I_ (x2 + 1)), (3, I_ x3), (4, I_ (x4 + (-1)))] [] n (W0 dy) (up2 (up2 g 90 x2.toNat x3) 91 x2.toNat x4) 0 0 P)))) ∧ ((x4 = 0) → (0 ≤ x3 ∧ x3 < 60) ∧ ((0 ≤ (g 66 x3.toNat)) → (0 ≤ x2 ∧ x2 < 200) ∧ ((0 ≤ (g 66 x3.toNat)) → ((0 ≤ (g 66 x3.toNat)) → Runs miX12_arm d [.ref 53, I_ x3, I_ (1 - x4)] n (W0 dy) (up2 (up2 g 90 x2.toNat (g 66 x3.toNat)) 91 x2.toNat ((-1))) (fun v n' S' g' => V miX12_shapes (d + 1) 311 [(0, .ref 53), (1, I_ x1), (2, I_ (x2 + 1)), (3, I_ x3), (4, I_ x4), (5, I_ (g 66 x3.toNat))] (v.toList ++ [L_ (g 86 x3.toNat), I_ (g 66 x3.toNat), .ref 86]) n' S' g' 0 0 P)) ∧ (((g 66 x3.toNat) < 0) → V miX12_shapes (d + 1) 218 [(0, .ref 53), (1, I_ x1), (2, I_ (x2 + 1)), (3, I_ x3), (4, I_ (x4 + (-1)))] [] n (W0 dy) (up2 (up2 g 90 x2.toNat (g 66 x3.toNat)) 91 x2.toNat ((-1))) 0 0 P)) ∧ (((g 66 x3.toNat) < 0) → ((0 ≤ (g 66 x3.toNat)) → Runs miX12_arm d [.ref 53, I_ x3, I_ (1 - x4)] n (W0 dy) (up2 (up2 g 90 x2.toNat (g 66 x3.toNat)) 91 x2.toNat x4) (fun v n' S' g' => V miX12_shapes (d + 1) 311 [(0, .ref 53), (1, I_ x1), (2, I_ (x2 + 1)), (3, I_ x3), (4, I_ x4), (5, I_ (g 66 x3.toNat))] (v.toList ++ [L_ (g 86 x3.toNat), I_ (g 66 x3.toNat), .ref 86]) n' S' g' 0 0 P)) ∧ (((g 66 x3.toNat) < 0) → V miX12_shapes (d + 1) 218 [(0, .ref 53), (1, I_ x1), (2, I_ (x2 + 1)), (3, I_ x3), (4, I_ (x4 + (-1)))] [] n (W0 dy) (up2 (up2 g 90 x2.toNat (g 66 x3.toNat)) 91 x2.toNat x4) 0 0 P))) ∧ (((g 66 x3.toNat) < 0) → (0 ≤ x2 ∧ x2 < 200) ∧ ((0 ≤ (g 66 x3.toNat)) → ((0 ≤ (g 66 x3.toNat)) → Runs miX12_arm d [.ref 53, I_ x3, I_ (1 - x4)] n (W0 dy) (up2 (up2 g 90 x2.toNat x3) 91 x2.toNat ((-1))) (fun v n' S' g' => V miX12_shapes (d + 1) 311 [(0, .ref 53), (1, I_ x1), (2, I_ (x2 + 1)), (3, I_ x3), (4, I_ x4), (5, I_ (g 66 x3.toNat))] (v.toList ++ [L_ (g 86 x3.toNat), I_ (g 66 x3.toNat), .ref 86]) n' S' g' 0 0 P)) ∧ (((g 66 x3.toNat) < 0) → V miX12_shapes (d + 1) 218 [(0, .ref 53), (1, I_ x1), (2, I_ (x2 + 1)), (3, I_ x3), (4, I_ (x4 + (-1)))] [] n (W0 dy) (up2 (up2 g 90 x2.toNat x3) 91 x2.toNat ((-1))) 0 0 P)) ∧ (((g 66 x3.toNat) < 0) → ((0 ≤ (g 66 x3.toNat)) → Runs miX12_arm d [.ref 53, I_ x3, I_ (1 - x4)] n (W0 dy) (up2 (up2 g 90 x2.toNat x3) 91 x2.toNat x4) (fun v n' S' g' => V miX12_shapes (d + 1) 311 [(0, .ref 53), (1, I_ x1), (2, I_ (x2 + 1)), (3, I_ x3), (4, I_ x4), (5, I_ (g 66 x3.toNat))] (v.toList ++ [L_ (g 86 x3.toNat), I_ (g 66 x3.toNat), .ref 86]) n' S' g' 0 0 P)) ∧ (((g 66 x3.toNat) < 0) → V miX12_shapes (d + 1) 218 [(0, .ref 53), (1, I_ x1), (2, I_ (x2 + 1)), (3, I_ x3), (4, I_ (x4 + (-1)))] [] n (W0 dy) (up2 (up2 g 90 x2.toNat x3) 91 x2.toNat x4) 0 0 P)))))) : V miX12_shapes (d + 1) 218 [(0, .ref 53), (1, I_ x1), (2, I_ x2), (3, I_ x3), (4, I_ x4)] [] n (W0 dy) g 0 0 P := by
  refine v_iload 133 4 rfl rfl ?_
  have c1 := h.1
  have h := h.2
  refine v_if_lt 134 rfl (tgt := 412) rfl c1 (fun q2 => ?_) (fun q2 => ?_)
  · have h := h.1 q2
    refine v_goto 243 rfl (tgt := 35) rfl ?_
    refine v_loc [0, 1, 2] rfl ?_
    exact h
  · have h := h.2 q2
    refine v_iload 135 4 rfl rfl ?_
    refine v_if_ne 136 rfl (tgt := 237) rfl c1 (fun q3 => ?_) (fun q3 => ?_)
    · have h := h.1 q3
      refine v_aload_n 142 0 rfl rfl rfl ?_
      refine v_gK 143 rfl fl12_50_11.r (al 53 rfl hn) (wk53 dy) (by decide) rfl (r := 67) (wc53_16 dy) ?_
      refine v_iload_n 144 3 rfl rfl rfl ?_
      have c4 := h.1
      have h := h.2
      refine v_ia (N := 60) 145 rfl (al 67 rfl hn) (wk67 dy) (wn67 dy) (by decide) c4 (y := g 67 x3.toNat) rfl ?_
      refine v_rng fun w5 => ?_
      have p6 : i3 (g 67 x3.toNat) := rI w5 (q := x3.toNat) (al 67 rfl hn) (wk67 dy) rfl rfl
      refine v_istore 146 [1, 2, 3, 4, 5, 0] rfl (by decide) rfl ?_
      refine v_aload_n 147 0 rfl rfl rfl ?_
      refine v_gK 148 rfl fl12_121_11.r (al 53 rfl hn) (wk53 dy) (by decide) rfl (r := 90) (wc53_47 dy) ?_
      refine v_iload_n 149 2 rfl rfl rfl ?_
      refine v_iload 150 5 rfl rfl ?_
      refine v_if_ge 151 rfl (tgt := 259) rfl p6 (fun q7 => ?_) (fun q7 => ?_)
      · have h := h.1 q7
        refine v_iload 154 5 rfl rfl ?_
        have c8 := h.1
        have h := h.2
        refine v_iast (N := 200) 155 rfl (al 90 rfl hn) (wk90 dy) (wn90 dy) (by decide) c8 p6 ?_
        refine v_aload_n 156 0 rfl rfl rfl ?_
        refine v_gK 157 rfl fl12_124_11.r (al 53 rfl hn) (wk53 dy) (by decide) rfl (r := 91) (wc53_48 dy) ?_
        refine v_iload_n 158 2 rfl rfl rfl ?_
        refine v_iload 159 5 rfl rfl ?_
        refine v_if_ge 160 rfl (tgt := 277) rfl p6 (fun q9 => ?_) (fun q9 => ?_)
        · have h := h.1 q9
          refine v_iconst 163 rfl ?_
          refine v_iast (N := 200) 164 rfl (al 91 rfl hn) (wk91 dy) (wn91 dy) (by decide) c8 (by decide) ?_
          refine v_iinc 165 2 [1, 2, 0, 3, 4, 5] rfl rfl (by decide) rfl ?_
          refine v_iload 166 5 rfl rfl ?_
          refine v_if_ge 167 rfl (tgt := 290) rfl p6 (fun q10 => ?_) (fun q10 => ?_)
          · have h := h.1 q10
            refine v_aload_n 169 0 rfl rfl rfl ?_
            refine v_gK 170 rfl fl12_109_11.r (al 53 rfl hn) (wk53 dy) (by decide) rfl (r := 86) (wc53_43 dy) ?_
            refine v_iload 171 5 rfl rfl ?_
            refine v_aload_n 172 0 rfl rfl rfl ?_
            refine v_gK 173 rfl fl12_109_11.r (al 53 rfl hn) (wk53 dy) (by decide) rfl (r := 86) (wc53_43 dy) ?_
            refine v_iload_n 174 3 rfl rfl rfl ?_
            refine v_la (N := 60) 175 rfl (al 86 rfl hn) (wk86 dy) (wn86 dy) (by decide) c4 (y := g 86 x3.toNat) rfl ?_
            refine v_rng fun w11 => ?_
            have p12 : i6 (g 86 x3.toNat) := rL w11 (q := x3.toNat) (al 86 rfl hn) (wk86 dy) rfl rfl
            refine v_aload_n 176 0 rfl rfl rfl ?_
            refine v_iload_n 177 3 rfl rfl rfl ?_
            refine v_iconst 178 rfl ?_
            refine v_iload 179 4 rfl rfl ?_
            refine v_isub 180 rfl ?_
            refine v_callV (st := [L_ (g 86 x3.toNat), I_ (g 67 x3.toNat), .ref 86]) [I_ x3, I_ (1 - x4)] 181 rfl lv12_300_shapes_11 (al 53 rfl hn) (wk53 dy) (by decide) rfl (Nat.le_refl _) (Nat.le_refl _) ?_
            exact h
          · have h := h.2 q10
            refine v_goto 168 rfl (tgt := 406) rfl ?_
            refine v_iinc 241 4 [1, 2, 3, 4, 0, 5] rfl rfl (by decide) rfl ?_
            refine v_goto 242 rfl (tgt := 218) rfl ?_
            refine v_loc [0, 1, 2, 3, 4] rfl ?_
            exact h
        · have h := h.2 q9
          refine v_iload 161 4 rfl rfl ?_
          refine v_goto 162 rfl (tgt := 278) rfl ?_
          refine v_iast (N := 200) 164 rfl (al 91 rfl hn) (wk91 dy) (wn91 dy) (by decide) c8 c1 ?_
          refine v_iinc 165 2 [1, 2, 0, 3, 4, 5] rfl rfl (by decide) rfl ?_
          refine v_iload 166 5 rfl rfl ?_
          refine v_if_ge 167 rfl (tgt := 290) rfl p6 (fun q13 => ?_) (fun q13 => ?_)
          · have h := h.1 q13
            refine v_aload_n 169 0 rfl rfl rfl ?_
            refine v_gK 170 rfl fl12_109_11.r (al 53 rfl hn) (wk53 dy) (by decide) rfl (r := 86) (wc53_43 dy) ?_
            refine v_iload 171 5 rfl rfl ?_
            refine v_aload_n 172 0 rfl rfl rfl ?_
            refine v_gK 173 rfl fl12_109_11.r (al 53 rfl hn) (wk53 dy) (by decide) rfl (r := 86) (wc53_43 dy) ?_
            refine v_iload_n 174 3 rfl rfl rfl ?_
            refine v_la (N := 60) 175 rfl (al 86 rfl hn) (wk86 dy) (wn86 dy) (by decide) c4 (y := g 86 x3.toNat) rfl ?_
            refine v_rng fun w14 => ?_
            have p15 : i6 (g 86 x3.toNat) := rL w14 (q := x3.toNat) (al 86 rfl hn) (wk86 dy) rfl rfl
            refine v_aload_n 176 0 rfl rfl rfl ?_
            refine v_iload_n 177 3 rfl rfl rfl ?_
            refine v_iconst 178 rfl ?_
            refine v_iload 179 4 rfl rfl ?_
            refine v_isub 180 rfl ?_
            refine v_callV (st := [L_ (g 86 x3.toNat), I_ (g 67 x3.toNat), .ref 86]) [I_ x3, I_ (1 - x4)] 181 rfl lv12_300_shapes_11 (al 53 rfl hn) (wk53 dy) (by decide) rfl (Nat.le_refl _) (Nat.le_refl _) ?_
            exact h
          · have h := h.2 q13
            refine v_goto 168 rfl (tgt := 406) rfl ?_
            refine v_iinc 241 4 [1, 2, 3, 4, 0, 5] rfl rfl (by decide) rfl ?_
            refine v_goto 242 rfl (tgt := 218) rfl ?_
            refine v_loc [0, 1, 2, 3, 4] rfl ?_
            exact h
      · have h := h.2 q7
        refine v_iload_n 152 3 rfl rfl rfl ?_
        refine v_goto 153 rfl (tgt := 261) rfl ?_
        have c16 := h.1
        have h := h.2
        refine v_iast (N := 200) 155 rfl (al 90 rfl hn) (wk90 dy) (wn90 dy) (by decide) c16 (ix3 c4 (by decide)) ?_
        refine v_aload_n 156 0 rfl rfl rfl ?_
        refine v_gK 157 rfl fl12_124_11.r (al 53 rfl hn) (wk53 dy) (by decide) rfl (r := 91) (wc53_48 dy) ?_
        refine v_iload_n 158 2 rfl rfl rfl ?_
        refine v_iload 159 5 rfl rfl ?_
        refine v_if_ge 160 rfl (tgt := 277) rfl p6 (fun q17 => ?_) (fun q17 => ?_)
        · have h := h.1 q17
          refine v_iconst 163 rfl ?_
          refine v_iast (N := 200) 164 rfl (al 91 rfl hn) (wk91 dy) (wn91 dy) (by decide) c16 (by decide) ?_
          refine v_iinc 165 2 [1, 2, 0, 3, 4, 5] rfl rfl (by decide) rfl ?_
          refine v_iload 166 5 rfl rfl ?_
          refine v_if_ge 167 rfl (tgt := 290) rfl p6 (fun q18 => ?_) (fun q18 => ?_)
          · have h := h.1 q18
            refine v_aload_n 169 0 rfl rfl rfl ?_
            refine v_gK 170 rfl fl12_109_11.r (al 53 rfl hn) (wk53 dy) (by decide) rfl (r := 86) (wc53_43 dy) ?_
            refine v_iload 171 5 rfl rfl ?_
            refine v_aload_n 172 0 rfl rfl rfl ?_
            refine v_gK 173 rfl fl12_109_11.r (al 53 rfl hn) (wk53 dy) (by decide) rfl (r := 86) (wc53_43 dy) ?_
            refine v_iload_n 174 3 rfl rfl rfl ?_
            refine v_la (N := 60) 175 rfl (al 86 rfl hn) (wk86 dy) (wn86 dy) (by decide) c4 (y := g 86 x3.toNat) rfl ?_
            refine v_rng fun w19 => ?_
            have p20 : i6 (g 86 x3.toNat) := rL w19 (q := x3.toNat) (al 86 rfl hn) (wk86 dy) rfl rfl
            refine v_aload_n 176 0 rfl rfl rfl ?_
            refine v_iload_n 177 3 rfl rfl rfl ?_
            refine v_iconst 178 rfl ?_
            refine v_iload 179 4 rfl rfl ?_
            refine v_isub 180 rfl ?_
            refine v_callV (st := [L_ (g 86 x3.toNat), I_ (g 67 x3.toNat), .ref 86]) [I_ x3, I_ (1 - x4)] 181 rfl lv12_300_shapes_11 (al 53 rfl hn) (wk53 dy) (by decide) rfl (Nat.le_refl _) (Nat.le_refl _) ?_
            exact h
          · have h := h.2 q18
            refine v_goto 168 rfl (tgt := 406) rfl ?_
            refine v_iinc 241 4 [1, 2, 3, 4, 0, 5] rfl rfl (by decide) rfl ?_
            refine v_goto 242 rfl (tgt := 218) rfl ?_
            refine v_loc [0, 1, 2, 3, 4] rfl ?_
            exact h
        · have h := h.2 q17
          refine v_iload 161 4 rfl rfl ?_
          refine v_goto 162 rfl (tgt := 278) rfl ?_
          refine v_iast (N := 200) 164 rfl (al 91 rfl hn) (wk91 dy) (wn91 dy) (by decide) c16 c1 ?_
          refine v_iinc 165 2 [1, 2, 0, 3, 4, 5] rfl rfl (by decide) rfl ?_
          refine v_iload 166 5 rfl rfl ?_
          refine v_if_ge 167 rfl (tgt := 290) rfl p6 (fun q21 => ?_) (fun q21 => ?_)
          · have h := h.1 q21
            refine v_aload_n 169 0 rfl rfl rfl ?_
            refine v_gK 170 rfl fl12_109_11.r (al 53 rfl hn) (wk53 dy) (by decide) rfl (r := 86) (wc53_43 dy) ?_
            refine v_iload 171 5 rfl rfl ?_
            refine v_aload_n 172 0 rfl rfl rfl ?_
            refine v_gK 173 rfl fl12_109_11.r (al 53 rfl hn) (wk53 dy) (by decide) rfl (r := 86) (wc53_43 dy) ?_
            refine v_iload_n 174 3 rfl rfl rfl ?_
            refine v_la (N := 60) 175 rfl (al 86 rfl hn) (wk86 dy) (wn86 dy) (by decide) c4 (y := g 86 x3.toNat) rfl ?_
            refine v_rng fun w22 => ?_
            have p23 : i6 (g 86 x3.toNat) := rL w22 (q := x3.toNat) (al 86 rfl hn) (wk86 dy) rfl rfl
            refine v_aload_n 176 0 rfl rfl rfl ?_
            refine v_iload_n 177 3 rfl rfl rfl ?_
            refine v_iconst 178 rfl ?_
            refine v_iload 179 4 rfl rfl ?_
            refine v_isub 180 rfl ?_
            refine v_callV (st := [L_ (g 86 x3.toNat), I_ (g 67 x3.toNat), .ref 86]) [I_ x3, I_ (1 - x4)] 181 rfl lv12_300_shapes_11 (al 53 rfl hn) (wk53 dy) (by decide) rfl (Nat.le_refl _) (Nat.le_refl _) ?_
            exact h
          · have h := h.2 q21
            refine v_goto 168 rfl (tgt := 406) rfl ?_
            refine v_iinc 241 4 [1, 2, 3, 4, 0, 5] rfl rfl (by decide) rfl ?_
            refine v_goto 242 rfl (tgt := 218) rfl ?_
            refine v_loc [0, 1, 2, 3, 4] rfl ?_
            exact h
    · have h := h.2 q3
      refine v_aload_n 137 0 rfl rfl rfl ?_
      refine v_gK 138 rfl fl12_47_11.r (al 53 rfl hn) (wk53 dy) (by decide) rfl (r := 66) (wc53_15 dy) ?_
      refine v_iload_n 139 3 rfl rfl rfl ?_
      have c24 := h.1
      have h := h.2
      refine v_ia (N := 60) 140 rfl (al 66 rfl hn) (wk66 dy) (wn66 dy) (by decide) c24 (y := g 66 x3.toNat) rfl ?_
      refine v_rng fun w25 => ?_
      have p26 : i3 (g 66 x3.toNat) := rI w25 (q := x3.toNat) (al 66 rfl hn) (wk66 dy) rfl rfl
      refine v_goto 141 rfl (tgt := 243) rfl ?_
      refine v_istore 146 [1, 2, 3, 4, 5, 0] rfl (by decide) rfl ?_
      refine v_aload_n 147 0 rfl rfl rfl ?_
      refine v_gK 148 rfl fl12_121_11.r (al 53 rfl hn) (wk53 dy) (by decide) rfl (r := 90) (wc53_47 dy) ?_
      refine v_iload_n 149 2 rfl rfl rfl ?_
      refine v_iload 150 5 rfl rfl ?_
      refine v_if_ge 151 rfl (tgt := 259) rfl p26 (fun q27 => ?_) (fun q27 => ?_)
      · have h := h.1 q27
        refine v_iload 154 5 rfl rfl ?_
        have c28 := h.1
        have h := h.2
        refine v_iast (N := 200) 155 rfl (al 90 rfl hn) (wk90 dy) (wn90 dy) (by decide) c28 p26 ?_
        refine v_aload_n 156 0 rfl rfl rfl ?_
        refine v_gK 157 rfl fl12_124_11.r (al 53 rfl hn) (wk53 dy) (by decide) rfl (r := 91) (wc53_48 dy) ?_
        refine v_iload_n 158 2 rfl rfl rfl ?_
        refine v_iload 159 5 rfl rfl ?_
        refine v_if_ge 160 rfl (tgt := 277) rfl p26 (fun q29 => ?_) (fun q29 => ?_)
        · have h := h.1 q29
          refine v_iconst 163 rfl ?_
          refine v_iast (N := 200) 164 rfl (al 91 rfl hn) (wk91 dy) (wn91 dy) (by decide) c28 (by decide) ?_
          refine v_iinc 165 2 [1, 2, 0, 3, 4, 5] rfl rfl (by decide) rfl ?_
          refine v_iload 166 5 rfl rfl ?_
          refine v_if_ge 167 rfl (tgt := 290) rfl p26 (fun q30 => ?_) (fun q30 => ?_)
          · have h := h.1 q30
            refine v_aload_n 169 0 rfl rfl rfl ?_
            refine v_gK 170 rfl fl12_109_11.r (al 53 rfl hn) (wk53 dy) (by decide) rfl (r := 86) (wc53_43 dy) ?_
            refine v_iload 171 5 rfl rfl ?_
            refine v_aload_n 172 0 rfl rfl rfl ?_
            refine v_gK 173 rfl fl12_109_11.r (al 53 rfl hn) (wk53 dy) (by decide) rfl (r := 86) (wc53_43 dy) ?_
            refine v_iload_n 174 3 rfl rfl rfl ?_
            refine v_la (N := 60) 175 rfl (al 86 rfl hn) (wk86 dy) (wn86 dy) (by decide) c24 (y := g 86 x3.toNat) rfl ?_
            refine v_rng fun w31 => ?_
            have p32 : i6 (g 86 x3.toNat) := rL w31 (q := x3.toNat) (al 86 rfl hn) (wk86 dy) rfl rfl
            refine v_aload_n 176 0 rfl rfl rfl ?_
            refine v_iload_n 177 3 rfl rfl rfl ?_
            refine v_iconst 178 rfl ?_
            refine v_iload 179 4 rfl rfl ?_
            refine v_isub 180 rfl ?_
            refine v_callV (st := [L_ (g 86 x3.toNat), I_ (g 66 x3.toNat), .ref 86]) [I_ x3, I_ (1 - x4)] 181 rfl lv12_300_shapes_11 (al 53 rfl hn) (wk53 dy) (by decide) rfl (Nat.le_refl _) (Nat.le_refl _) ?_
            exact h
          · have h := h.2 q30
            refine v_goto 168 rfl (tgt := 406) rfl ?_
            refine v_iinc 241 4 [1, 2, 3, 4, 0, 5] rfl rfl (by decide) rfl ?_
            refine v_goto 242 rfl (tgt := 218) rfl ?_
            refine v_loc [0, 1, 2, 3, 4] rfl ?_
            exact h
        · have h := h.2 q29
          refine v_iload 161 4 rfl rfl ?_
          refine v_goto 162 rfl (tgt := 278) rfl ?_
          refine v_iast (N := 200) 164 rfl (al 91 rfl hn) (wk91 dy) (wn91 dy) (by decide) c28 c1 ?_
          refine v_iinc 165 2 [1, 2, 0, 3, 4, 5] rfl rfl (by decide) rfl ?_
          refine v_iload 166 5 rfl rfl ?_
          refine v_if_ge 167 rfl (tgt := 290) rfl p26 (fun q33 => ?_) (fun q33 => ?_)
          · have h := h.1 q33
            refine v_aload_n 169 0 rfl rfl rfl ?_
            refine v_gK 170 rfl fl12_109_11.r (al 53 rfl hn) (wk53 dy) (by decide) rfl (r := 86) (wc53_43 dy) ?_
            refine v_iload 171 5 rfl rfl ?_
            refine v_aload_n 172 0 rfl rfl rfl ?_
            refine v_gK 173 rfl fl12_109_11.r (al 53 rfl hn) (wk53 dy) (by decide) rfl (r := 86) (wc53_43 dy) ?_
            refine v_iload_n 174 3 rfl rfl rfl ?_
            refine v_la (N := 60) 175 rfl (al 86 rfl hn) (wk86 dy) (wn86 dy) (by decide) c24 (y := g 86 x3.toNat) rfl ?_
            refine v_rng fun w34 => ?_
            have p35 : i6 (g 86 x3.toNat) := rL w34 (q := x3.toNat) (al 86 rfl hn) (wk86 dy) rfl rfl
            refine v_aload_n 176 0 rfl rfl rfl ?_
            refine v_iload_n 177 3 rfl rfl rfl ?_
            refine v_iconst 178 rfl ?_
            refine v_iload 179 4 rfl rfl ?_
            refine v_isub 180 rfl ?_
            refine v_callV (st := [L_ (g 86 x3.toNat), I_ (g 66 x3.toNat), .ref 86]) [I_ x3, I_ (1 - x4)] 181 rfl lv12_300_shapes_11 (al 53 rfl hn) (wk53 dy) (by decide) rfl (Nat.le_refl _) (Nat.le_refl _) ?_
            exact h
          · have h := h.2 q33
            refine v_goto 168 rfl (tgt := 406) rfl ?_
            refine v_iinc 241 4 [1, 2, 3, 4, 0, 5] rfl rfl (by decide) rfl ?_
            refine v_goto 242 rfl (tgt := 218) rfl ?_
            refine v_loc [0, 1, 2, 3, 4] rfl ?_
            exact h
      · have h := h.2 q27
        refine v_iload_n 152 3 rfl rfl rfl ?_
        refine v_goto 153 rfl (tgt := 261) rfl ?_
        have c36 := h.1
        have h := h.2
        refine v_iast (N := 200) 155 rfl (al 90 rfl hn) (wk90 dy) (wn90 dy) (by decide) c36 (ix3 c24 (by decide)) ?_
        refine v_aload_n 156 0 rfl rfl rfl ?_
        refine v_gK 157 rfl fl12_124_11.r (al 53 rfl hn) (wk53 dy) (by decide) rfl (r := 91) (wc53_48 dy) ?_
        refine v_iload_n 158 2 rfl rfl rfl ?_
        refine v_iload 159 5 rfl rfl ?_
        refine v_if_ge 160 rfl (tgt := 277) rfl p26 (fun q37 => ?_) (fun q37 => ?_)
        · have h := h.1 q37
          refine v_iconst 163 rfl ?_
          refine v_iast (N := 200) 164 rfl (al 91 rfl hn) (wk91 dy) (wn91 dy) (by decide) c36 (by decide) ?_
          refine v_iinc 165 2 [1, 2, 0, 3, 4, 5] rfl rfl (by decide) rfl ?_
          refine v_iload 166 5 rfl rfl ?_
          refine v_if_ge 167 rfl (tgt := 290) rfl p26 (fun q38 => ?_) (fun q38 => ?_)
          · have h := h.1 q38
            refine v_aload_n 169 0 rfl rfl rfl ?_
            refine v_gK 170 rfl fl12_109_11.r (al 53 rfl hn) (wk53 dy) (by decide) rfl (r := 86) (wc53_43 dy) ?_
            refine v_iload 171 5 rfl rfl ?_
            refine v_aload_n 172 0 rfl rfl rfl ?_
            refine v_gK 173 rfl fl12_109_11.r (al 53 rfl hn) (wk53 dy) (by decide) rfl (r := 86) (wc53_43 dy) ?_
            refine v_iload_n 174 3 rfl rfl rfl ?_
            refine v_la (N := 60) 175 rfl (al 86 rfl hn) (wk86 dy) (wn86 dy) (by decide) c24 (y := g 86 x3.toNat) rfl ?_
            refine v_rng fun w39 => ?_
            have p40 : i6 (g 86 x3.toNat) := rL w39 (q := x3.toNat) (al 86 rfl hn) (wk86 dy) rfl rfl
            refine v_aload_n 176 0 rfl rfl rfl ?_
            refine v_iload_n 177 3 rfl rfl rfl ?_
            refine v_iconst 178 rfl ?_
            refine v_iload 179 4 rfl rfl ?_
            refine v_isub 180 rfl ?_
            refine v_callV (st := [L_ (g 86 x3.toNat), I_ (g 66 x3.toNat), .ref 86]) [I_ x3, I_ (1 - x4)] 181 rfl lv12_300_shapes_11 (al 53 rfl hn) (wk53 dy) (by decide) rfl (Nat.le_refl _) (Nat.le_refl _) ?_
            exact h
          · have h := h.2 q38
            refine v_goto 168 rfl (tgt := 406) rfl ?_
            refine v_iinc 241 4 [1, 2, 3, 4, 0, 5] rfl rfl (by decide) rfl ?_
            refine v_goto 242 rfl (tgt := 218) rfl ?_
            refine v_loc [0, 1, 2, 3, 4] rfl ?_
            exact h
        · have h := h.2 q37
          refine v_iload 161 4 rfl rfl ?_
          refine v_goto 162 rfl (tgt := 278) rfl ?_
          refine v_iast (N := 200) 164 rfl (al 91 rfl hn) (wk91 dy) (wn91 dy) (by decide) c36 c1 ?_
          refine v_iinc 165 2 [1, 2, 0, 3, 4, 5] rfl rfl (by decide) rfl ?_
          refine v_iload 166 5 rfl rfl ?_
          refine v_if_ge 167 rfl (tgt := 290) rfl p26 (fun q41 => ?_) (fun q41 => ?_)
          · have h := h.1 q41
            refine v_aload_n 169 0 rfl rfl rfl ?_
            refine v_gK 170 rfl fl12_109_11.r (al 53 rfl hn) (wk53 dy) (by decide) rfl (r := 86) (wc53_43 dy) ?_
            refine v_iload 171 5 rfl rfl ?_
            refine v_aload_n 172 0 rfl rfl rfl ?_
            refine v_gK 173 rfl fl12_109_11.r (al 53 rfl hn) (wk53 dy) (by decide) rfl (r := 86) (wc53_43 dy) ?_
            refine v_iload_n 174 3 rfl rfl rfl ?_
            refine v_la (N := 60) 175 rfl (al 86 rfl hn) (wk86 dy) (wn86 dy) (by decide) c24 (y := g 86 x3.toNat) rfl ?_
            refine v_rng fun w42 => ?_
            have p43 : i6 (g 86 x3.toNat) := rL w42 (q := x3.toNat) (al 86 rfl hn) (wk86 dy) rfl rfl
            refine v_aload_n 176 0 rfl rfl rfl ?_
            refine v_iload_n 177 3 rfl rfl rfl ?_
            refine v_iconst 178 rfl ?_
            refine v_iload 179 4 rfl rfl ?_
            refine v_isub 180 rfl ?_
            refine v_callV (st := [L_ (g 86 x3.toNat), I_ (g 66 x3.toNat), .ref 86]) [I_ x3, I_ (1 - x4)] 181 rfl lv12_300_shapes_11 (al 53 rfl hn) (wk53 dy) (by decide) rfl (Nat.le_refl _) (Nat.le_refl _) ?_
            exact h
          · have h := h.2 q41
            refine v_goto 168 rfl (tgt := 406) rfl ?_
            refine v_iinc 241 4 [1, 2, 3, 4, 0, 5] rfl rfl (by decide) rfl ?_
            refine v_goto 242 rfl (tgt := 218) rfl ?_
            refine v_loc [0, 1, 2, 3, 4] rfl ?_
            exact h
set_option maxHeartbeats 8000000 in
set_option maxRecDepth 4000 in
theorem bX12_shapes_311 {d n : Nat} {dy : Nat → Shp} {g : Hp} {P : Pst} {x1 : Int} {x2 : Int} {x3 : Int} {x4 : Int} {x5 : Int} {xs1 : Int} {xs2 : Int} {xs3 : Int} (hn : 100 ≤ n) (h : (i3 xs3) ∧ (0 ≤ xs1 ∧ xs1 < 60) ∧ (i6 (xs2 * xs3)) ∧ (0 ≤ x3 ∧ x3 < 60) ∧ ∀ y9 : Int, y9 = (g 87 x3.toNat) * (g 59 x3.toNat) → (0 ≤ x5 ∧ x5 < 60) ∧ (i6 y9) ∧ Runs miX12_common d [L_ ((up2 g 86 xs1.toNat (xs2 * xs3)) 86 x5.toNat), L_ ((up2 (up2 g 86 xs1.toNat (xs2 * xs3)) 87 x5.toNat y9) 87 x5.toNat)] n (W0 dy) (up2 (up2 g 86 xs1.toNat (xs2 * xs3)) 87 x5.toNat y9) (fun v n' S' g' => V miX12_shapes (d + 1) 352 [(0, .ref 53), (1, I_ x1), (2, I_ x2), (3, I_ x3), (4, I_ x4), (5, I_ x5)] (v.toList ++ []) n' S' g' 0 0 P)) : V miX12_shapes (d + 1) 311 [(0, .ref 53), (1, I_ x1), (2, I_ x2), (3, I_ x3), (4, I_ x4), (5, I_ x5)] [I_ xs3, L_ xs2, I_ xs1, .ref 86] n (W0 dy) g 0 0 P := by
  have c1 := h.1
  have h := h.2
  refine v_i2l 182 rfl c1 ?_
  refine v_lmul 183 rfl ?_
  have c2 := h.1
  have h := h.2
  have c3 := h.1
  have h := h.2
  refine v_last (N := 60) 184 rfl (al 86 rfl hn) (wk86 dy) (wn86 dy) (by decide) c2 c3 ?_
  refine v_aload_n 185 0 rfl rfl rfl ?_
  refine v_gK 186 rfl fl12_112_11.r (al 53 rfl hn) (wk53 dy) (by decide) rfl (r := 87) (wc53_44 dy) ?_
  refine v_iload 187 5 rfl rfl ?_
  refine v_aload_n 188 0 rfl rfl rfl ?_
  refine v_gK 189 rfl fl12_112_11.r (al 53 rfl hn) (wk53 dy) (by decide) rfl (r := 87) (wc53_44 dy) ?_
  refine v_iload_n 190 3 rfl rfl rfl ?_
  have c4 := h.1
  have h := h.2
  refine v_la (N := 60) 191 rfl (al 87 rfl hn) (wk87 dy) (wn87 dy) (by decide) c4 (y := g 87 x3.toNat) rfl ?_
  refine v_rng fun w5 => ?_
  have p6 : i6 (g 87 x3.toNat) := rL w5 (q := x3.toNat) (al 87 rfl hn) (wk87 dy) rfl rfl
  refine v_aload_n 192 0 rfl rfl rfl ?_
  refine v_gK 193 rfl fl12_26_11.r (al 53 rfl hn) (wk53 dy) (by decide) rfl (r := 59) (wc53_8 dy) ?_
  refine v_iload_n 194 3 rfl rfl rfl ?_
  refine v_ia (N := 60) 195 rfl (al 59 rfl hn) (wk59 dy) (wn59 dy) (by decide) c4 (y := g 59 x3.toNat) rfl ?_
  refine v_rng fun w7 => ?_
  have p8 : i3 (g 59 x3.toNat) := rI w7 (q := x3.toNat) (al 59 rfl hn) (wk59 dy) rfl rfl
  refine v_i2l 196 rfl p8 ?_
  refine v_lmul 197 rfl ?_
  refine v_nmL (fun y9 ey9 => ?_)
  have h := h y9 ey9
  have c10 := h.1
  have h := h.2
  have c11 := h.1
  have h := h.2
  refine v_last (N := 60) 198 rfl (al 87 rfl hn) (wk87 dy) (wn87 dy) (by decide) c10 c11 ?_
  refine v_aload_n 199 0 rfl rfl rfl ?_
  refine v_gK 200 rfl fl12_109_11.r (al 53 rfl hn) (wk53 dy) (by decide) rfl (r := 86) (wc53_43 dy) ?_
  refine v_iload 201 5 rfl rfl ?_
  refine v_la (N := 60) 202 rfl (al 86 rfl hn) (wk86 dy) (wn86 dy) (by decide) c10 (y := (up2 g 86 xs1.toNat (xs2 * xs3)) 86 x5.toNat) rfl ?_
  refine v_rng fun w12 => ?_
  have p13 : i6 ((up2 g 86 xs1.toNat (xs2 * xs3)) 86 x5.toNat) := rL w12 (q := x5.toNat) (al 86 rfl hn) (wk86 dy) rfl rfl
  refine v_aload_n 203 0 rfl rfl rfl ?_
  refine v_gK 204 rfl fl12_112_11.r (al 53 rfl hn) (wk53 dy) (by decide) rfl (r := 87) (wc53_44 dy) ?_
  refine v_iload 205 5 rfl rfl ?_
  refine v_la (N := 60) 206 rfl (al 87 rfl hn) (wk87 dy) (wn87 dy) (by decide) c10 (y := (up2 (up2 g 86 xs1.toNat (xs2 * xs3)) 87 x5.toNat y9) 87 x5.toNat) rfl ?_
  refine v_rng fun w14 => ?_
  have p15 : i6 ((up2 (up2 g 86 xs1.toNat (xs2 * xs3)) 87 x5.toNat y9) 87 x5.toNat) := rL w14 (q := x5.toNat) (al 87 rfl hn) (wk87 dy) rfl rfl
  refine v_callS (st := []) [L_ ((up2 g 86 xs1.toNat (xs2 * xs3)) 86 x5.toNat), L_ ((up2 (up2 g 86 xs1.toNat (xs2 * xs3)) 87 x5.toNat y9) 87 x5.toNat)] 207 rfl ls12_227_shapes rfl (Nat.lt_of_lt_of_le (by decide) hn) (Nat.le_refl _) (Nat.le_refl _) ?_
  exact h
set_option maxHeartbeats 8000000 in
set_option maxRecDepth 4000 in
theorem bX12_shapes_352 {d n : Nat} {dy : Nat → Shp} {g : Hp} {P : Pst} {x1 : Int} {x2 : Int} {x3 : Int} {x4 : Int} {x5 : Int} {xs0 : Int} (hn : 100 ≤ n) (h : (0 ≤ x5 ∧ x5 < 60) ∧ (i6 xs0) ∧ (xs0 ≠ 0) ∧ (i6 ((g 86 x5.toNat).tdiv xs0)) ∧ (xs0 ≠ 0) ∧ (i6 ((g 87 x5.toNat).tdiv xs0)) ∧ (i6 (10000000 * ((up2 g 86 x5.toNat ((g 86 x5.toNat).tdiv xs0)) 86 x5.toNat))) ∧ ((((up2 (up2 g 86 x5.toNat ((g 86 x5.toNat).tdiv xs0)) 87 x5.toNat ((g 87 x5.toNat).tdiv xs0)) 87 x5.toNat) ≤ (10000000 * ((up2 g 86 x5.toNat ((g 86 x5.toNat).tdiv xs0)) 86 x5.toNat))) → V miX12_shapes (d + 1) 218 [(0, .ref 53), (1, I_ x1), (2, I_ x2), (3, I_ x3), (4, I_ (x4 + (-1)))] [] n (W0 dy) (up2 (up2 g 86 x5.toNat ((g 86 x5.toNat).tdiv xs0)) 87 x5.toNat ((g 87 x5.toNat).tdiv xs0)) 0 0 P) ∧ (((10000000 * ((up2 g 86 x5.toNat ((g 86 x5.toNat).tdiv xs0)) 86 x5.toNat)) < ((up2 (up2 g 86 x5.toNat ((g 86 x5.toNat).tdiv xs0)) 87 x5.toNat ((g 87 x5.toNat).tdiv xs0)) 87 x5.toNat)) → Runs miX12_shapesOn d [.ref 53, I_ x1] n (W0 dy) (up2 (up2 g 86 x5.toNat ((g 86 x5.toNat).tdiv xs0)) 87 x5.toNat ((g 87 x5.toNat).tdiv xs0)) (fun v n' S' g' => V miX12_shapes (d + 1) 405 [(0, .ref 53), (1, I_ x1), (2, I_ x2), (3, I_ x3), (4, I_ x4), (5, I_ x5), (6, L_ xs0)] (v.toList ++ []) n' S' g' 0 0 P))) : V miX12_shapes (d + 1) 352 [(0, .ref 53), (1, I_ x1), (2, I_ x2), (3, I_ x3), (4, I_ x4), (5, I_ x5)] [L_ xs0] n (W0 dy) g 0 0 P := by
  refine v_lstore 208 [1, 2, 3, 4, 5, 6, 0] rfl (by decide) rfl ?_
  refine v_aload_n 209 0 rfl rfl rfl ?_
  refine v_gK 210 rfl fl12_109_11.r (al 53 rfl hn) (wk53 dy) (by decide) rfl (r := 86) (wc53_43 dy) ?_
  refine v_iload 211 5 rfl rfl ?_
  refine v_dup2 212 rfl (by intro h; cases h) (by intro h; cases h) ?_
  have c1 := h.1
  have h := h.2
  refine v_la (N := 60) 213 rfl (al 86 rfl hn) (wk86 dy) (wn86 dy) (by decide) c1 (y := g 86 x5.toNat) rfl ?_
  refine v_rng fun w2 => ?_
  have p3 : i6 (g 86 x5.toNat) := rL w2 (q := x5.toNat) (al 86 rfl hn) (wk86 dy) rfl rfl
  refine v_lload 214 6 rfl rfl ?_
  have c4 := h.1
  have h := h.2
  have c5 := h.1
  have h := h.2
  refine v_ldiv 215 rfl p3 c4 c5 ?_
  have c6 := h.1
  have h := h.2
  refine v_last (N := 60) 216 rfl (al 86 rfl hn) (wk86 dy) (wn86 dy) (by decide) c1 c6 ?_
  refine v_aload_n 217 0 rfl rfl rfl ?_
  refine v_gK 218 rfl fl12_112_11.r (al 53 rfl hn) (wk53 dy) (by decide) rfl (r := 87) (wc53_44 dy) ?_
  refine v_iload 219 5 rfl rfl ?_
  refine v_dup2 220 rfl (by intro h; cases h) (by intro h; cases h) ?_
  refine v_la (N := 60) 221 rfl (al 87 rfl hn) (wk87 dy) (wn87 dy) (by decide) c1 (y := g 87 x5.toNat) rfl ?_
  refine v_rng fun w7 => ?_
  have p8 : i6 (g 87 x5.toNat) := rL w7 (q := x5.toNat) (al 87 rfl hn) (wk87 dy) rfl rfl
  refine v_lload 222 6 rfl rfl ?_
  have c9 := h.1
  have h := h.2
  refine v_ldiv 223 rfl p8 c4 c9 ?_
  have c10 := h.1
  have h := h.2
  refine v_last (N := 60) 224 rfl (al 87 rfl hn) (wk87 dy) (wn87 dy) (by decide) c1 c10 ?_
  refine v_aload_n 225 0 rfl rfl rfl ?_
  refine v_gK 226 rfl fl12_112_11.r (al 53 rfl hn) (wk53 dy) (by decide) rfl (r := 87) (wc53_44 dy) ?_
  refine v_iload 227 5 rfl rfl ?_
  refine v_la (N := 60) 228 rfl (al 87 rfl hn) (wk87 dy) (wn87 dy) (by decide) c1 (y := (up2 (up2 g 86 x5.toNat ((g 86 x5.toNat).tdiv xs0)) 87 x5.toNat ((g 87 x5.toNat).tdiv xs0)) 87 x5.toNat) rfl ?_
  refine v_rng fun w11 => ?_
  have p12 : i6 ((up2 (up2 g 86 x5.toNat ((g 86 x5.toNat).tdiv xs0)) 87 x5.toNat ((g 87 x5.toNat).tdiv xs0)) 87 x5.toNat) := rL w11 (q := x5.toNat) (al 87 rfl hn) (wk87 dy) rfl rfl
  refine v_ldc2 (v := 10000000) 229 rfl (tbG_in (List.mem_append_right _ (List.mem_of_getElem? (i := 1606) (by decide +kernel))) rfl) ?_
  refine v_aload_n 230 0 rfl rfl rfl ?_
  refine v_gK 231 rfl fl12_109_11.r (al 53 rfl hn) (wk53 dy) (by decide) rfl (r := 86) (wc53_43 dy) ?_
  refine v_iload 232 5 rfl rfl ?_
  refine v_la (N := 60) 233 rfl (al 86 rfl hn) (wk86 dy) (wn86 dy) (by decide) c1 (y := (up2 g 86 x5.toNat ((g 86 x5.toNat).tdiv xs0)) 86 x5.toNat) rfl ?_
  refine v_rng fun w13 => ?_
  have p14 : i6 ((up2 g 86 x5.toNat ((g 86 x5.toNat).tdiv xs0)) 86 x5.toNat) := rL w13 (q := x5.toNat) (al 86 rfl hn) (wk86 dy) rfl rfl
  refine v_lmul 234 rfl ?_
  have c15 := h.1
  have h := h.2
  refine v_lif_le 235 rfl rfl (tgt := 406) rfl p12 c15 (fun q16 => ?_) (fun q16 => ?_)
  · have h := h.1 q16
    refine v_iinc 241 4 [1, 2, 3, 4, 0, 5, 6] rfl rfl (by decide) rfl ?_
    refine v_goto 242 rfl (tgt := 218) rfl ?_
    refine v_loc [0, 1, 2, 3, 4] rfl ?_
    exact h
  · have h := h.2 q16
    refine v_aload_n 237 0 rfl rfl rfl ?_
    refine v_iload_n 238 1 rfl rfl rfl ?_
    refine v_callV (st := []) [I_ x1] 239 rfl lv12_345_shapes_11 (al 53 rfl hn) (wk53 dy) (by decide) rfl (Nat.le_refl _) (Nat.le_refl _) ?_
    exact h
set_option maxHeartbeats 8000000 in
set_option maxRecDepth 4000 in
theorem bX12_shapes_405 {d n : Nat} {dy : Nat → Shp} {g : Hp} {P : Pst} {x1 : Int} {x2 : Int} {x3 : Int} {x4 : Int} {x5 : Int} {x6 : Int} {xs0 : Int} (hn : 100 ≤ n) (h : P (some (I_ xs0)) n (W0 dy) g) : V miX12_shapes (d + 1) 405 [(0, .ref 53), (1, I_ x1), (2, I_ x2), (3, I_ x3), (4, I_ x4), (5, I_ x5), (6, L_ x6)] [I_ xs0] n (W0 dy) g 0 0 P := by
  exact v_ret (v := some (I_ xs0)) 240 rfl (Nat.zero_le _) (Nat.zero_le _) trivial rfl h
theorem wX12_shapes {d n : Nat} {dy : Nat → Shp} {g : Hp} {P : Pst} {x1 : Int} (hn : 100 ≤ n) (h : (i3 x1) ∧ (0 ≤ x1 ∧ x1 < 60) ∧ V miX12_shapes (d + 1) 35 [(0, .ref 53), (1, I_ x1), (2, I_ 1)] [] n (W0 dy) (up2 (up2 (up2 (up2 (up2 g 53 41 0) 90 0 x1) 91 0 ((-1))) 86 x1.toNat 1) 87 x1.toNat 1) 0 0 P) : Runs miX12_shapes (d + 1) [.ref 53, I_ x1] n (W0 dy) g P := Runs.of rfl rfl deX12_shapes (Nat.le_of_ble_eq_true rfl) (bX12_shapes_0 hn h)
theorem fl12_348_11 : FL RX12 348 11 51 false .boolean := ⟨RX12, TX12, 58, "MobileMakerModel", rfl, rfl, by decide, kf11, tbG_in (List.mem_append_right _ (List.mem_of_getElem? (i := 1178) (by decide +kernel))) rfl, Or.inl rfl, rfl, by decide +kernel, ⟨tyX12, tyX12_ok⟩, nmX12, fun h => by cases h⟩
theorem lv12_243_shapesOn_11 : LkV miX12_shapesOn miX12_isAbove 243 2 11 := ⟨⟨⟨tbG_in (List.mem_append_right _ (List.mem_of_getElem? (i := 1436) (by decide +kernel))) rfl, tbG_in (List.mem_append_right _ (List.mem_of_getElem? (i := 9) (by decide +kernel))) rfl, tbG_in (List.mem_append_right _ (List.mem_of_getElem? (i := 1433) (by decide +kernel))) rfl⟩, ⟨by decide +kernel, by decide +kernel, by decide +kernel⟩, by decide⟩, tbG_in (List.mem_append_right _ (List.mem_of_getElem? (i := 1435) (by decide +kernel))) rfl, RX12, TX12, 58, rfl, tbG_in (List.mem_append_left _ (List.mem_of_getElem? (i := 61) (by decide +kernel))) rfl⟩
theorem lv12_237_shapesOn_11 : LkV miX12_shapesOn miX12_isRod 237 1 11 := ⟨⟨⟨tbG_in (List.mem_append_right _ (List.mem_of_getElem? (i := 1428) (by decide +kernel))) rfl, tbG_in (List.mem_append_right _ (List.mem_of_getElem? (i := 9) (by decide +kernel))) rfl, tbG_in (List.mem_append_right _ (List.mem_of_getElem? (i := 1425) (by decide +kernel))) rfl⟩, ⟨by decide +kernel, by decide +kernel, by decide +kernel⟩, by decide⟩, tbG_in (List.mem_append_right _ (List.mem_of_getElem? (i := 1427) (by decide +kernel))) rfl, RX12, TX12, 58, rfl, tbG_in (List.mem_append_left _ (List.mem_of_getElem? (i := 60) (by decide +kernel))) rfl⟩
theorem lv12_297_shapesOn_11 : LkV miX12_shapesOn miX12_isWhole 297 1 11 := ⟨⟨⟨tbG_in (List.mem_append_right _ (List.mem_of_getElem? (i := 1533) (by decide +kernel))) rfl, tbG_in (List.mem_append_right _ (List.mem_of_getElem? (i := 9) (by decide +kernel))) rfl, tbG_in (List.mem_append_right _ (List.mem_of_getElem? (i := 1530) (by decide +kernel))) rfl⟩, ⟨by decide +kernel, by decide +kernel, by decide +kernel⟩, by decide⟩, tbG_in (List.mem_append_right _ (List.mem_of_getElem? (i := 1532) (by decide +kernel))) rfl, RX12, TX12, 58, rfl, tbG_in (List.mem_append_left _ (List.mem_of_getElem? (i := 75) (by decide +kernel))) rfl⟩
set_option maxHeartbeats 8000000 in
set_option maxRecDepth 4000 in
theorem bX12_shapesOn_0 {d n : Nat} {dy : Nat → Shp} {g : Hp} {P : Pst} {x1 : Int} (hn : 100 ≤ n) (h : V miX12_shapesOn (d + 1) 12 [(0, .ref 53), (1, I_ x1), (2, I_ 0)] [] n (W0 dy) (up2 (up2 g 53 51 1) 53 41 0) 0 0 P) : V miX12_shapesOn (d + 1) 0 [(0, .ref 53), (1, I_ x1)] [] n (W0 dy) g 0 0 P := by
  refine v_aload_n 0 0 rfl rfl rfl ?_
  refine v_iconst 1 rfl ?_
  refine v_putZ 2 rfl fl12_348_11 (al 53 rfl hn) (wk53 dy) (by decide) rfl (wc53_51 dy) (Or.inr rfl) ?_
  refine v_aload_n 3 0 rfl rfl rfl ?_
  refine v_iconst 4 rfl ?_
  refine v_putI 5 rfl fl12_340_11 (al 53 rfl hn) (wk53 dy) (by decide) rfl (wc53_41 dy) (by decide) ?_
  refine v_iconst 6 rfl ?_
  refine v_istore_n 7 [1, 2, 0] rfl rfl (by decide) rfl ?_
  exact h
set_option maxHeartbeats 8000000 in
set_option maxRecDepth 4000 in
theorem bX12_shapesOn_12 {d n : Nat} {dy : Nat → Shp} {g : Hp} {P : Pst} {x1 : Int} {x2 : Int} (hn : 100 ≤ n) (h : (i3 x2) ∧ (((g 53 5) ≤ x2) → (((g 53 41) < 2) → P (some (I_ 9)) n (W0 dy) g) ∧ ((2 ≤ (g 53 41)) → (((g 53 41) ≤ 8) → P (some (I_ 0)) n (W0 dy) g) ∧ ((8 < (g 53 41)) → P (some (I_ 9)) n (W0 dy) g))) ∧ ((x2 < (g 53 5)) → Runs miX12_isAbove d [.ref 53, I_ x1, I_ x2] n (W0 dy) g (fun v n' S' g' => V miX12_shapesOn (d + 1) 26 [(0, .ref 53), (1, I_ x1), (2, I_ x2)] (v.toList ++ []) n' S' g' 0 0 P))) : V miX12_shapesOn (d + 1) 12 [(0, .ref 53), (1, I_ x1), (2, I_ x2)] [] n (W0 dy) g 0 0 P := by
  refine v_iload_n 8 2 rfl rfl rfl ?_
  refine v_aload_n 9 0 rfl rfl rfl ?_
  refine v_gI 10 rfl fl12_169_11.r (al 53 rfl hn) (wk53 dy) (by decide) rfl (wc53_5 dy) (x := g 53 5) rfl ?_
  refine v_rng fun w1 => ?_
  have p2 : i3 (g 53 5) := rI w1 (q := 5) (al 53 rfl hn) (wk53 dy) rfl rfl
  have c3 := h.1
  have h := h.2
  refine v_icmp_ge 11 rfl (tgt := 112) rfl c3 p2 (fun q4 => ?_) (fun q4 => ?_)
  · have h := h.1 q4
    refine v_aload_n 61 0 rfl rfl rfl ?_
    refine v_gI 62 rfl fl12_340_11.r (al 53 rfl hn) (wk53 dy) (by decide) rfl (wc53_41 dy) (x := g 53 41) rfl ?_
    refine v_rng fun w5 => ?_
    have p6 : i3 (g 53 41) := rI w5 (q := 41) (al 53 rfl hn) (wk53 dy) rfl rfl
    refine v_iconst 63 rfl ?_
    refine v_icmp_lt 64 rfl (tgt := 129) rfl p6 (by decide) (fun q7 => ?_) (fun q7 => ?_)
    · have h := h.1 q7
      refine v_bipush 69 rfl (by decide) ?_
      refine v_goto 70 rfl (tgt := 135) rfl ?_
      exact v_ret (v := some (I_ 9)) 72 rfl (Nat.zero_le _) (Nat.zero_le _) trivial rfl h
    · have h := h.2 q7
      refine v_aload_n 65 0 rfl rfl rfl ?_
      refine v_gI 66 rfl fl12_340_11.r (al 53 rfl hn) (wk53 dy) (by decide) rfl (wc53_41 dy) (x := g 53 41) rfl ?_
      refine v_rng fun w8 => ?_
      have p9 : i3 (g 53 41) := rI w8 (q := 41) (al 53 rfl hn) (wk53 dy) rfl rfl
      refine v_bipush 67 rfl (by decide) ?_
      refine v_icmp_le 68 rfl (tgt := 134) rfl p9 (by decide) (fun q10 => ?_) (fun q10 => ?_)
      · have h := h.1 q10
        refine v_iconst 71 rfl ?_
        exact v_ret (v := some (I_ 0)) 72 rfl (Nat.zero_le _) (Nat.zero_le _) trivial rfl h
      · have h := h.2 q10
        refine v_bipush 69 rfl (by decide) ?_
        refine v_goto 70 rfl (tgt := 135) rfl ?_
        exact v_ret (v := some (I_ 9)) 72 rfl (Nat.zero_le _) (Nat.zero_le _) trivial rfl h
  · have h := h.2 q4
    refine v_aload_n 12 0 rfl rfl rfl ?_
    refine v_iload_n 13 1 rfl rfl rfl ?_
    refine v_iload_n 14 2 rfl rfl rfl ?_
    refine v_callV (st := []) [I_ x1, I_ x2] 15 rfl lv12_243_shapesOn_11 (al 53 rfl hn) (wk53 dy) (by decide) rfl (Nat.le_refl _) (Nat.le_refl _) ?_
    exact h
set_option maxHeartbeats 8000000 in
set_option maxRecDepth 4000 in
theorem bX12_shapesOn_26 {d n : Nat} {dy : Nat → Shp} {g : Hp} {P : Pst} {x1 : Int} {x2 : Int} {xs0 : Int} (hn : 100 ≤ n) (h : (i3 xs0) ∧ ((xs0 ≠ 0) → Runs miX12_isRod d [.ref 53, I_ x2] n (W0 dy) g (fun v n' S' g' => V miX12_shapesOn (d + 1) 37 [(0, .ref 53), (1, I_ x1), (2, I_ x2)] (v.toList ++ []) n' S' g' 0 0 P)) ∧ ((xs0 = 0) → V miX12_shapesOn (d + 1) 12 [(0, .ref 53), (1, I_ x1), (2, I_ (x2 + 1))] [] n (W0 dy) g 0 0 P)) : V miX12_shapesOn (d + 1) 26 [(0, .ref 53), (1, I_ x1), (2, I_ x2)] [I_ xs0] n (W0 dy) g 0 0 P := by
  have c1 := h.1
  have h := h.2
  refine v_if_ne 16 rfl (tgt := 32) rfl c1 (fun q2 => ?_) (fun q2 => ?_)
  · have h := h.1 q2
    refine v_aload_n 18 0 rfl rfl rfl ?_
    refine v_iload_n 19 2 rfl rfl rfl ?_
    refine v_callV (st := []) [I_ x2] 20 rfl lv12_237_shapesOn_11 (al 53 rfl hn) (wk53 dy) (by decide) rfl (Nat.le_refl _) (Nat.le_refl _) ?_
    exact h
  · have h := h.2 q2
    refine v_goto 17 rfl (tgt := 106) rfl ?_
    refine v_iinc 59 2 [1, 2, 0] rfl rfl (by decide) rfl ?_
    refine v_goto 60 rfl (tgt := 12) rfl ?_
    exact h
set_option maxHeartbeats 8000000 in
set_option maxRecDepth 4000 in
theorem bX12_shapesOn_37 {d n : Nat} {dy : Nat → Shp} {g : Hp} {P : Pst} {x1 : Int} {x2 : Int} {xs0 : Int} (hn : 100 ≤ n) (h : (i3 xs0) ∧ ((xs0 = 0) → P (some (I_ 9)) n (W0 dy) g) ∧ ((xs0 ≠ 0) → (0 ≤ x2 ∧ x2 < 60) ∧ (((g 58 x2.toNat) ≠ 0) → P (some (I_ 9)) n (W0 dy) g) ∧ (((g 58 x2.toNat) = 0) → Runs miX12_isWhole d [.ref 53, I_ x2] n (W0 dy) g (fun v n' S' g' => V miX12_shapesOn (d + 1) 54 [(0, .ref 53), (1, I_ x1), (2, I_ x2)] (v.toList ++ []) n' S' g' 0 0 P)))) : V miX12_shapesOn (d + 1) 37 [(0, .ref 53), (1, I_ x1), (2, I_ x2)] [I_ xs0] n (W0 dy) g 0 0 P := by
  have c1 := h.1
  have h := h.2
  refine v_if_eq 21 rfl (tgt := 57) rfl c1 (fun q2 => ?_) (fun q2 => ?_)
  · have h := h.1 q2
    refine v_bipush 31 rfl (by decide) ?_
    exact v_ret (v := some (I_ 9)) 32 rfl (Nat.zero_le _) (Nat.zero_le _) trivial rfl h
  · have h := h.2 q2
    refine v_aload_n 22 0 rfl rfl rfl ?_
    refine v_gK 23 rfl fl12_23_11.r (al 53 rfl hn) (wk53 dy) (by decide) rfl (r := 58) (wc53_7 dy) ?_
    refine v_iload_n 24 2 rfl rfl rfl ?_
    have c3 := h.1
    have h := h.2
    refine v_ia (N := 60) 25 rfl (al 58 rfl hn) (wk58 dy) (wn58 dy) (by decide) c3 (y := g 58 x2.toNat) rfl ?_
    refine v_rng fun w4 => ?_
    have p5 : i3 (g 58 x2.toNat) := rI w4 (q := x2.toNat) (al 58 rfl hn) (wk58 dy) rfl rfl
    refine v_if_ne 26 rfl (tgt := 57) rfl p5 (fun q6 => ?_) (fun q6 => ?_)
    · have h := h.1 q6
      refine v_bipush 31 rfl (by decide) ?_
      exact v_ret (v := some (I_ 9)) 32 rfl (Nat.zero_le _) (Nat.zero_le _) trivial rfl h
    · have h := h.2 q6
      refine v_aload_n 27 0 rfl rfl rfl ?_
      refine v_iload_n 28 2 rfl rfl rfl ?_
      refine v_callV (st := []) [I_ x2] 29 rfl lv12_297_shapesOn_11 (al 53 rfl hn) (wk53 dy) (by decide) rfl (Nat.le_refl _) (Nat.le_refl _) ?_
      exact h
set_option maxHeartbeats 8000000 in
set_option maxRecDepth 4000 in
theorem bX12_shapesOn_54 {d n : Nat} {dy : Nat → Shp} {g : Hp} {P : Pst} {x1 : Int} {x2 : Int} {xs0 : Int} (hn : 100 ≤ n) (h : (i3 xs0) ∧ ((xs0 ≠ 0) → (0 ≤ x2 ∧ x2 < 60) ∧ ((0 ≤ (g 66 x2.toNat)) → (i3 ((g 53 41) + 0)) ∧ ((0 ≤ (g 67 x2.toNat)) → (i3 (((g 53 41) + 0) + 0)) ∧ V miX12_shapesOn (d + 1) 12 [(0, .ref 53), (1, I_ x1), (2, I_ (x2 + 1))] [] n (W0 dy) (up2 (up2 g 53 41 ((g 53 41) + 0)) 53 41 (((g 53 41) + 0) + 0)) 0 0 P) ∧ (((g 67 x2.toNat) < 0) → (i3 (((g 53 41) + 0) + 1)) ∧ V miX12_shapesOn (d + 1) 12 [(0, .ref 53), (1, I_ x1), (2, I_ (x2 + 1))] [] n (W0 dy) (up2 (up2 g 53 41 ((g 53 41) + 0)) 53 41 (((g 53 41) + 0) + 1)) 0 0 P)) ∧ (((g 66 x2.toNat) < 0) → (i3 ((g 53 41) + 1)) ∧ ((0 ≤ (g 67 x2.toNat)) → (i3 (((g 53 41) + 1) + 0)) ∧ V miX12_shapesOn (d + 1) 12 [(0, .ref 53), (1, I_ x1), (2, I_ (x2 + 1))] [] n (W0 dy) (up2 (up2 g 53 41 ((g 53 41) + 1)) 53 41 (((g 53 41) + 1) + 0)) 0 0 P) ∧ (((g 67 x2.toNat) < 0) → (i3 (((g 53 41) + 1) + 1)) ∧ V miX12_shapesOn (d + 1) 12 [(0, .ref 53), (1, I_ x1), (2, I_ (x2 + 1))] [] n (W0 dy) (up2 (up2 g 53 41 ((g 53 41) + 1)) 53 41 (((g 53 41) + 1) + 1)) 0 0 P))) ∧ ((xs0 = 0) → P (some (I_ 9)) n (W0 dy) g)) : V miX12_shapesOn (d + 1) 54 [(0, .ref 53), (1, I_ x1), (2, I_ x2)] [I_ xs0] n (W0 dy) g 0 0 P := by
  have c1 := h.1
  have h := h.2
  refine v_if_ne 30 rfl (tgt := 60) rfl c1 (fun q2 => ?_) (fun q2 => ?_)
  · have h := h.1 q2
    refine v_aload_n 33 0 rfl rfl rfl ?_
    refine v_dup 34 rfl (by intro h; cases h) ?_
    refine v_gI 35 rfl fl12_340_11.r (al 53 rfl hn) (wk53 dy) (by decide) rfl (wc53_41 dy) (x := g 53 41) rfl ?_
    refine v_rng fun w3 => ?_
    have p4 : i3 (g 53 41) := rI w3 (q := 41) (al 53 rfl hn) (wk53 dy) rfl rfl
    refine v_aload_n 36 0 rfl rfl rfl ?_
    refine v_gK 37 rfl fl12_47_11.r (al 53 rfl hn) (wk53 dy) (by decide) rfl (r := 66) (wc53_15 dy) ?_
    refine v_iload_n 38 2 rfl rfl rfl ?_
    have c5 := h.1
    have h := h.2
    refine v_ia (N := 60) 39 rfl (al 66 rfl hn) (wk66 dy) (wn66 dy) (by decide) c5 (y := g 66 x2.toNat) rfl ?_
    refine v_rng fun w6 => ?_
    have p7 : i3 (g 66 x2.toNat) := rI w6 (q := x2.toNat) (al 66 rfl hn) (wk66 dy) rfl rfl
    refine v_if_ge 40 rfl (tgt := 78) rfl p7 (fun q8 => ?_) (fun q8 => ?_)
    · have h := h.1 q8
      refine v_iconst 43 rfl ?_
      refine v_iadd 44 rfl ?_
      have c9 := h.1
      have h := h.2
      refine v_putI 45 rfl fl12_340_11 (al 53 rfl hn) (wk53 dy) (by decide) rfl (wc53_41 dy) c9 ?_
      refine v_aload_n 46 0 rfl rfl rfl ?_
      refine v_dup 47 rfl (by intro h; cases h) ?_
      refine v_gI 48 rfl fl12_340_11.r (al 53 rfl hn) (wk53 dy) (by decide) rfl (wc53_41 dy) (x := (g 53 41) + 0) rfl ?_
      refine v_rng fun w10 => ?_
      have p11 : i3 ((g 53 41) + 0) := rI w10 (q := 41) (al 53 rfl hn) (wk53 dy) rfl rfl
      refine v_aload_n 49 0 rfl rfl rfl ?_
      refine v_gK 50 rfl fl12_50_11.r (al 53 rfl hn) (wk53 dy) (by decide) rfl (r := 67) (wc53_16 dy) ?_
      refine v_iload_n 51 2 rfl rfl rfl ?_
      refine v_ia (N := 60) 52 rfl (al 67 rfl hn) (wk67 dy) (wn67 dy) (by decide) c5 (y := g 67 x2.toNat) rfl ?_
      refine v_rng fun w12 => ?_
      have p13 : i3 (g 67 x2.toNat) := rI w12 (q := x2.toNat) (al 67 rfl hn) (wk67 dy) rfl rfl
      refine v_if_ge 53 rfl (tgt := 101) rfl p13 (fun q14 => ?_) (fun q14 => ?_)
      · have h := h.1 q14
        refine v_iconst 56 rfl ?_
        refine v_iadd 57 rfl ?_
        have c15 := h.1
        have h := h.2
        refine v_putI 58 rfl fl12_340_11 (al 53 rfl hn) (wk53 dy) (by decide) rfl (wc53_41 dy) c15 ?_
        refine v_iinc 59 2 [1, 2, 0] rfl rfl (by decide) rfl ?_
        refine v_goto 60 rfl (tgt := 12) rfl ?_
        exact h
      · have h := h.2 q14
        refine v_iconst 54 rfl ?_
        refine v_goto 55 rfl (tgt := 102) rfl ?_
        refine v_iadd 57 rfl ?_
        have c16 := h.1
        have h := h.2
        refine v_putI 58 rfl fl12_340_11 (al 53 rfl hn) (wk53 dy) (by decide) rfl (wc53_41 dy) c16 ?_
        refine v_iinc 59 2 [1, 2, 0] rfl rfl (by decide) rfl ?_
        refine v_goto 60 rfl (tgt := 12) rfl ?_
        exact h
    · have h := h.2 q8
      refine v_iconst 41 rfl ?_
      refine v_goto 42 rfl (tgt := 79) rfl ?_
      refine v_iadd 44 rfl ?_
      have c17 := h.1
      have h := h.2
      refine v_putI 45 rfl fl12_340_11 (al 53 rfl hn) (wk53 dy) (by decide) rfl (wc53_41 dy) c17 ?_
      refine v_aload_n 46 0 rfl rfl rfl ?_
      refine v_dup 47 rfl (by intro h; cases h) ?_
      refine v_gI 48 rfl fl12_340_11.r (al 53 rfl hn) (wk53 dy) (by decide) rfl (wc53_41 dy) (x := (g 53 41) + 1) rfl ?_
      refine v_rng fun w18 => ?_
      have p19 : i3 ((g 53 41) + 1) := rI w18 (q := 41) (al 53 rfl hn) (wk53 dy) rfl rfl
      refine v_aload_n 49 0 rfl rfl rfl ?_
      refine v_gK 50 rfl fl12_50_11.r (al 53 rfl hn) (wk53 dy) (by decide) rfl (r := 67) (wc53_16 dy) ?_
      refine v_iload_n 51 2 rfl rfl rfl ?_
      refine v_ia (N := 60) 52 rfl (al 67 rfl hn) (wk67 dy) (wn67 dy) (by decide) c5 (y := g 67 x2.toNat) rfl ?_
      refine v_rng fun w20 => ?_
      have p21 : i3 (g 67 x2.toNat) := rI w20 (q := x2.toNat) (al 67 rfl hn) (wk67 dy) rfl rfl
      refine v_if_ge 53 rfl (tgt := 101) rfl p21 (fun q22 => ?_) (fun q22 => ?_)
      · have h := h.1 q22
        refine v_iconst 56 rfl ?_
        refine v_iadd 57 rfl ?_
        have c23 := h.1
        have h := h.2
        refine v_putI 58 rfl fl12_340_11 (al 53 rfl hn) (wk53 dy) (by decide) rfl (wc53_41 dy) c23 ?_
        refine v_iinc 59 2 [1, 2, 0] rfl rfl (by decide) rfl ?_
        refine v_goto 60 rfl (tgt := 12) rfl ?_
        exact h
      · have h := h.2 q22
        refine v_iconst 54 rfl ?_
        refine v_goto 55 rfl (tgt := 102) rfl ?_
        refine v_iadd 57 rfl ?_
        have c24 := h.1
        have h := h.2
        refine v_putI 58 rfl fl12_340_11 (al 53 rfl hn) (wk53 dy) (by decide) rfl (wc53_41 dy) c24 ?_
        refine v_iinc 59 2 [1, 2, 0] rfl rfl (by decide) rfl ?_
        refine v_goto 60 rfl (tgt := 12) rfl ?_
        exact h
  · have h := h.2 q2
    refine v_bipush 31 rfl (by decide) ?_
    exact v_ret (v := some (I_ 9)) 32 rfl (Nat.zero_le _) (Nat.zero_le _) trivial rfl h
theorem wX12_shapesOn {d n : Nat} {dy : Nat → Shp} {g : Hp} {P : Pst} {x1 : Int} (hn : 100 ≤ n) (h : V miX12_shapesOn (d + 1) 12 [(0, .ref 53), (1, I_ x1), (2, I_ 0)] [] n (W0 dy) (up2 (up2 g 53 51 1) 53 41 0) 0 0 P) : Runs miX12_shapesOn (d + 1) [.ref 53, I_ x1] n (W0 dy) g P := Runs.of rfl rfl deX12_shapesOn (Nat.le_of_ble_eq_true rfl) (bX12_shapesOn_0 hn h)
theorem fl12_351_11 : FL RX12 351 11 42 false .int := ⟨RX12, TX12, 58, "MobileMakerModel", rfl, rfl, by decide, kf11, tbG_in (List.mem_append_right _ (List.mem_of_getElem? (i := 1169) (by decide +kernel))) rfl, Or.inl rfl, rfl, by decide +kernel, ⟨tyX12, tyX12_ok⟩, nmX12, fun h => by cases h⟩
theorem fl12_118_11 : FL RX12 118 11 46 true (.array .long) := ⟨RX12, TX12, 58, "MobileMakerModel", rfl, rfl, by decide, kf11, tbG_in (List.mem_append_right _ (List.mem_of_getElem? (i := 1173) (by decide +kernel))) rfl, Or.inl rfl, rfl, by decide +kernel, ⟨tyX12, tyX12_ok⟩, nmX12, fun _ => rfl⟩
theorem fl12_115_11 : FL RX12 115 11 45 true (.array .long) := ⟨RX12, TX12, 58, "MobileMakerModel", rfl, rfl, by decide, kf11, tbG_in (List.mem_append_right _ (List.mem_of_getElem? (i := 1172) (by decide +kernel))) rfl, Or.inl rfl, rfl, by decide +kernel, ⟨tyX12, tyX12_ok⟩, nmX12, fun _ => rfl⟩
theorem lv12_222_parted_11 : LkV miX12_parted miX12_isPart 222 1 11 := ⟨⟨⟨tbG_in (List.mem_append_right _ (List.mem_of_getElem? (i := 1400) (by decide +kernel))) rfl, tbG_in (List.mem_append_right _ (List.mem_of_getElem? (i := 9) (by decide +kernel))) rfl, tbG_in (List.mem_append_right _ (List.mem_of_getElem? (i := 1397) (by decide +kernel))) rfl⟩, ⟨by decide +kernel, by decide +kernel, by decide +kernel⟩, by decide⟩, tbG_in (List.mem_append_right _ (List.mem_of_getElem? (i := 1399) (by decide +kernel))) rfl, RX12, TX12, 58, rfl, tbG_in (List.mem_append_left _ (List.mem_of_getElem? (i := 56) (by decide +kernel))) rfl⟩
theorem lv12_237_parted_11 : LkV miX12_parted miX12_isRod 237 1 11 := ⟨⟨⟨tbG_in (List.mem_append_right _ (List.mem_of_getElem? (i := 1428) (by decide +kernel))) rfl, tbG_in (List.mem_append_right _ (List.mem_of_getElem? (i := 9) (by decide +kernel))) rfl, tbG_in (List.mem_append_right _ (List.mem_of_getElem? (i := 1425) (by decide +kernel))) rfl⟩, ⟨by decide +kernel, by decide +kernel, by decide +kernel⟩, by decide⟩, tbG_in (List.mem_append_right _ (List.mem_of_getElem? (i := 1427) (by decide +kernel))) rfl, RX12, TX12, 58, rfl, tbG_in (List.mem_append_left _ (List.mem_of_getElem? (i := 60) (by decide +kernel))) rfl⟩
theorem lv12_354_parted_11 : LkV miX12_parted miX12_shapes 354 1 11 := ⟨⟨⟨tbG_in (List.mem_append_right _ (List.mem_of_getElem? (i := 1605) (by decide +kernel))) rfl, tbG_in (List.mem_append_right _ (List.mem_of_getElem? (i := 9) (by decide +kernel))) rfl, tbG_in (List.mem_append_right _ (List.mem_of_getElem? (i := 1602) (by decide +kernel))) rfl⟩, ⟨by decide +kernel, by decide +kernel, by decide +kernel⟩, by decide⟩, tbG_in (List.mem_append_right _ (List.mem_of_getElem? (i := 1604) (by decide +kernel))) rfl, RX12, TX12, 58, rfl, tbG_in (List.mem_append_left _ (List.mem_of_getElem? (i := 88) (by decide +kernel))) rfl⟩
set_option maxHeartbeats 8000000 in
set_option maxRecDepth 4000 in
theorem bX12_parted_0 {d n : Nat} {dy : Nat → Shp} {g : Hp} {P : Pst} {x1 : Int} {x2 : Int} {x3 : Int} {x4 : Int} (hn : 100 ≤ n) (h : (i3 x2) ∧ ((x2 < 0) → P (some (I_ 1)) n (W0 dy) g) ∧ ((0 ≤ x2) → ((x2 < 6) → Runs miX12_isPart d [.ref 53, I_ x1] n (W0 dy) g (fun v n' S' g' => V miX12_parted (d + 1) 17 [(0, .ref 53), (1, I_ x1), (2, I_ x2), (3, I_ x3), (4, I_ x4)] (v.toList ++ []) n' S' g' 0 0 P)) ∧ ((6 ≤ x2) → P (some (I_ 1)) n (W0 dy) g))) : V miX12_parted (d + 1) 0 [(0, .ref 53), (1, I_ x1), (2, I_ x2), (3, I_ x3), (4, I_ x4)] [] n (W0 dy) g 0 0 P := by
  refine v_iload_n 0 2 rfl rfl rfl ?_
  have c1 := h.1
  have h := h.2
  refine v_if_lt 1 rfl (tgt := 10) rfl c1 (fun q2 => ?_) (fun q2 => ?_)
  · have h := h.1 q2
    refine v_iconst 5 rfl ?_
    exact v_ret (v := some (I_ 1)) 6 rfl (Nat.zero_le _) (Nat.zero_le _) trivial rfl h
  · have h := h.2 q2
    refine v_iload_n 2 2 rfl rfl rfl ?_
    refine v_bipush 3 rfl (by decide) ?_
    refine v_icmp_lt 4 rfl (tgt := 12) rfl c1 (by decide) (fun q3 => ?_) (fun q3 => ?_)
    · have h := h.1 q3
      refine v_aload_n 7 0 rfl rfl rfl ?_
      refine v_iload_n 8 1 rfl rfl rfl ?_
      refine v_callV (st := []) [I_ x1] 9 rfl lv12_222_parted_11 (al 53 rfl hn) (wk53 dy) (by decide) rfl (Nat.le_refl _) (Nat.le_refl _) ?_
      exact h
    · have h := h.2 q3
      refine v_iconst 5 rfl ?_
      exact v_ret (v := some (I_ 1)) 6 rfl (Nat.zero_le _) (Nat.zero_le _) trivial rfl h
set_option maxHeartbeats 8000000 in
set_option maxRecDepth 4000 in
theorem bX12_parted_17 {d n : Nat} {dy : Nat → Shp} {g : Hp} {P : Pst} {x1 : Int} {x2 : Int} {x3 : Int} {x4 : Int} {xs0 : Int} (hn : 100 ≤ n) (h : (i3 xs0) ∧ ((xs0 ≠ 0) → (0 ≤ x2 ∧ x2 < 6) ∧ ((0 ≤ (g 55 x2.toNat)) → (i3 x4) ∧ ((x4 = 0) → Runs miX12_isRod d [.ref 53, I_ x1] n (W0 dy) g (fun v n' S' g' => V miX12_parted (d + 1) 59 [(0, .ref 53), (1, I_ x1), (2, I_ x2), (3, I_ x3), (4, I_ x4)] (v.toList ++ []) n' S' g' 0 0 P)) ∧ ((x4 ≠ 0) → (i3 x3) ∧ ((x3 < 0) → P (some (I_ 4)) n (W0 dy) g) ∧ ((0 ≤ x3) → ((x3 < (g 55 x2.toNat)) → Runs miX12_isRod d [.ref 53, I_ x1] n (W0 dy) g (fun v n' S' g' => V miX12_parted (d + 1) 59 [(0, .ref 53), (1, I_ x1), (2, I_ x2), (3, I_ x3), (4, I_ x4)] (v.toList ++ []) n' S' g' 0 0 P)) ∧ (((g 55 x2.toNat) ≤ x3) → P (some (I_ 4)) n (W0 dy) g)))) ∧ (((g 55 x2.toNat) < 0) → P (some (I_ 3)) n (W0 dy) g)) ∧ ((xs0 = 0) → P (some (I_ 2)) n (W0 dy) g)) : V miX12_parted (d + 1) 17 [(0, .ref 53), (1, I_ x1), (2, I_ x2), (3, I_ x3), (4, I_ x4)] [I_ xs0] n (W0 dy) g 0 0 P := by
  have c1 := h.1
  have h := h.2
  refine v_if_ne 10 rfl (tgt := 22) rfl c1 (fun q2 => ?_) (fun q2 => ?_)
  · have h := h.1 q2
    refine v_aload_n 13 0 rfl rfl rfl ?_
    refine v_gK 14 rfl fl12_13_11.r (al 53 rfl hn) (wk53 dy) (by decide) rfl (r := 55) (wc53_3 dy) ?_
    refine v_iload_n 15 2 rfl rfl rfl ?_
    have c3 := h.1
    have h := h.2
    refine v_ia (N := 6) 16 rfl (al 55 rfl hn) (wk55 dy) (wn55 dy) (by decide) c3 (y := g 55 x2.toNat) rfl ?_
    refine v_rng fun w4 => ?_
    have p5 : i3 (g 55 x2.toNat) := rI w4 (q := x2.toNat) (al 55 rfl hn) (wk55 dy) rfl rfl
    refine v_if_ge 17 rfl (tgt := 33) rfl p5 (fun q6 => ?_) (fun q6 => ?_)
    · have h := h.1 q6
      refine v_iload 20 4 rfl rfl ?_
      have c7 := h.1
      have h := h.2
      refine v_if_eq 21 rfl (tgt := 54) rfl c7 (fun q8 => ?_) (fun q8 => ?_)
      · have h := h.1 q8
        refine v_aload_n 32 0 rfl rfl rfl ?_
        refine v_iload_n 33 1 rfl rfl rfl ?_
        refine v_callV (st := []) [I_ x1] 34 rfl lv12_237_parted_11 (al 53 rfl hn) (wk53 dy) (by decide) rfl (Nat.le_refl _) (Nat.le_refl _) ?_
        exact h
      · have h := h.2 q8
        refine v_iload_n 22 3 rfl rfl rfl ?_
        have c9 := h.1
        have h := h.2
        refine v_if_lt 23 rfl (tgt := 52) rfl c9 (fun q10 => ?_) (fun q10 => ?_)
        · have h := h.1 q10
          refine v_iconst 30 rfl ?_
          exact v_ret (v := some (I_ 4)) 31 rfl (Nat.zero_le _) (Nat.zero_le _) trivial rfl h
        · have h := h.2 q10
          refine v_iload_n 24 3 rfl rfl rfl ?_
          refine v_aload_n 25 0 rfl rfl rfl ?_
          refine v_gK 26 rfl fl12_13_11.r (al 53 rfl hn) (wk53 dy) (by decide) rfl (r := 55) (wc53_3 dy) ?_
          refine v_iload_n 27 2 rfl rfl rfl ?_
          refine v_ia (N := 6) 28 rfl (al 55 rfl hn) (wk55 dy) (wn55 dy) (by decide) c3 (y := g 55 x2.toNat) rfl ?_
          refine v_rng fun w11 => ?_
          have p12 : i3 (g 55 x2.toNat) := rI w11 (q := x2.toNat) (al 55 rfl hn) (wk55 dy) rfl rfl
          refine v_icmp_lt 29 rfl (tgt := 54) rfl c9 p12 (fun q13 => ?_) (fun q13 => ?_)
          · have h := h.1 q13
            refine v_aload_n 32 0 rfl rfl rfl ?_
            refine v_iload_n 33 1 rfl rfl rfl ?_
            refine v_callV (st := []) [I_ x1] 34 rfl lv12_237_parted_11 (al 53 rfl hn) (wk53 dy) (by decide) rfl (Nat.le_refl _) (Nat.le_refl _) ?_
            exact h
          · have h := h.2 q13
            refine v_iconst 30 rfl ?_
            exact v_ret (v := some (I_ 4)) 31 rfl (Nat.zero_le _) (Nat.zero_le _) trivial rfl h
    · have h := h.2 q6
      refine v_iconst 18 rfl ?_
      exact v_ret (v := some (I_ 3)) 19 rfl (Nat.zero_le _) (Nat.zero_le _) trivial rfl h
  · have h := h.2 q2
    refine v_iconst 11 rfl ?_
    exact v_ret (v := some (I_ 2)) 12 rfl (Nat.zero_le _) (Nat.zero_le _) trivial rfl h
set_option maxHeartbeats 8000000 in
set_option maxRecDepth 4000 in
theorem bX12_parted_59 {d n : Nat} {dy : Nat → Shp} {g : Hp} {P : Pst} {x1 : Int} {x2 : Int} {x3 : Int} {x4 : Int} {xs0 : Int} (hn : 100 ≤ n) (h : (i3 xs0) ∧ ((xs0 ≠ 0) → (0 ≤ x2 ∧ x2 < 6) ∧ (((g 55 x2.toNat) < 2) → P (some (I_ 7)) n (W0 dy) (up2 g 53 42 (g 55 x2.toNat))) ∧ ((2 ≤ (g 55 x2.toNat)) → (((g 55 x2.toNat) ≤ 10) → V miX12_parted (d + 1) 100 [(0, .ref 53), (1, I_ x1), (2, I_ x2), (3, I_ x3), (4, I_ x4), (5, L_ 0), (7, I_ 0)] [] n (W0 dy) (up2 g 53 42 (g 55 x2.toNat)) 0 0 P) ∧ ((10 < (g 55 x2.toNat)) → P (some (I_ 7)) n (W0 dy) (up2 g 53 42 (g 55 x2.toNat))))) ∧ ((xs0 = 0) → P (some (I_ 5)) n (W0 dy) g)) : V miX12_parted (d + 1) 59 [(0, .ref 53), (1, I_ x1), (2, I_ x2), (3, I_ x3), (4, I_ x4)] [I_ xs0] n (W0 dy) g 0 0 P := by
  have c1 := h.1
  have h := h.2
  refine v_if_ne 35 rfl (tgt := 64) rfl c1 (fun q2 => ?_) (fun q2 => ?_)
  · have h := h.1 q2
    refine v_aload_n 38 0 rfl rfl rfl ?_
    refine v_aload_n 39 0 rfl rfl rfl ?_
    refine v_gK 40 rfl fl12_13_11.r (al 53 rfl hn) (wk53 dy) (by decide) rfl (r := 55) (wc53_3 dy) ?_
    refine v_iload_n 41 2 rfl rfl rfl ?_
    have c3 := h.1
    have h := h.2
    refine v_ia (N := 6) 42 rfl (al 55 rfl hn) (wk55 dy) (wn55 dy) (by decide) c3 (y := g 55 x2.toNat) rfl ?_
    refine v_rng fun w4 => ?_
    have p5 : i3 (g 55 x2.toNat) := rI w4 (q := x2.toNat) (al 55 rfl hn) (wk55 dy) rfl rfl
    refine v_putI 43 rfl fl12_351_11 (al 53 rfl hn) (wk53 dy) (by decide) rfl (wc53_42 dy) p5 ?_
    refine v_aload_n 44 0 rfl rfl rfl ?_
    refine v_gI 45 rfl fl12_351_11.r (al 53 rfl hn) (wk53 dy) (by decide) rfl (wc53_42 dy) (x := g 55 x2.toNat) rfl ?_
    refine v_rng fun w6 => ?_
    have p7 : i3 (g 55 x2.toNat) := rI w6 (q := 42) (al 53 rfl hn) (wk53 dy) rfl rfl
    refine v_iconst 46 rfl ?_
    refine v_icmp_lt 47 rfl (tgt := 91) rfl p7 (by decide) (fun q8 => ?_) (fun q8 => ?_)
    · have h := h.1 q8
      refine v_bipush 52 rfl (by decide) ?_
      exact v_ret (v := some (I_ 7)) 53 rfl (Nat.zero_le _) (Nat.zero_le _) trivial rfl h
    · have h := h.2 q8
      refine v_aload_n 48 0 rfl rfl rfl ?_
      refine v_gI 49 rfl fl12_351_11.r (al 53 rfl hn) (wk53 dy) (by decide) rfl (wc53_42 dy) (x := g 55 x2.toNat) rfl ?_
      refine v_rng fun w9 => ?_
      have p10 : i3 (g 55 x2.toNat) := rI w9 (q := 42) (al 53 rfl hn) (wk53 dy) rfl rfl
      refine v_bipush 50 rfl (by decide) ?_
      refine v_icmp_le 51 rfl (tgt := 94) rfl p10 (by decide) (fun q11 => ?_) (fun q11 => ?_)
      · have h := h.1 q11
        refine v_lconst (v := 0) 54 rfl (by decide) ?_
        refine v_lstore 55 [1, 2, 3, 4, 5, 0] rfl (by decide) rfl ?_
        refine v_iconst 56 rfl ?_
        refine v_istore 57 [1, 2, 3, 4, 5, 6, 0] rfl (by decide) rfl ?_
        exact h
      · have h := h.2 q11
        refine v_bipush 52 rfl (by decide) ?_
        exact v_ret (v := some (I_ 7)) 53 rfl (Nat.zero_le _) (Nat.zero_le _) trivial rfl h
  · have h := h.2 q2
    refine v_iconst 36 rfl ?_
    exact v_ret (v := some (I_ 5)) 37 rfl (Nat.zero_le _) (Nat.zero_le _) trivial rfl h
set_option maxHeartbeats 8000000 in
set_option maxRecDepth 4000 in
theorem bX12_parted_100 {d n : Nat} {dy : Nat → Shp} {g : Hp} {P : Pst} {x1 : Int} {x2 : Int} {x3 : Int} {x4 : Int} {x5 : Int} {x7 : Int} (hn : 100 ≤ n) (h : (i3 x7) ∧ (((g 53 42) ≤ x7) → (0 ≤ x1 ∧ x1 < 60) ∧ (((g 60 x1.toNat) < 0) → Runs miX12_shapes d [.ref 53, I_ x1] n (W0 dy) (up2 g 53 51 0) (fun v n' S' g' => V miX12_parted (d + 1) 197 [(0, .ref 53), (1, I_ x1), (2, I_ x2), (3, I_ x3), (4, I_ x4), (5, L_ x5), (7, I_ x7)] (v.toList ++ []) n' S' g' 0 0 P)) ∧ ((0 ≤ (g 60 x1.toNat)) → P (some (I_ 8)) n (W0 dy) g)) ∧ ((x7 < (g 53 42)) → (0 ≤ (16 * x2) + x7 ∧ (16 * x2) + x7 < 96) ∧ ∀ y12 : Int, y12 = g 56 (((16 * x2) + x7).toNat) → (0 ≤ x7 ∧ x7 < 10) ∧ ((((up2 g 89 x7.toNat y12) 89 x7.toNat) < 1) → P (some (I_ 7)) n (W0 dy) (up2 g 89 x7.toNat y12)) ∧ ((1 ≤ ((up2 g 89 x7.toNat y12) 89 x7.toNat)) → ((((up2 g 89 x7.toNat y12) 89 x7.toNat) ≤ 1000000) → ∀ y22 : Int, y22 = x5 + ((up2 g 89 x7.toNat y12) 89 x7.toNat) → V miX12_parted (d + 1) 100 [(0, .ref 53), (1, I_ x1), (2, I_ x2), (3, I_ x3), (4, I_ x4), (5, L_ y22), (7, I_ (x7 + 1))] [] n (W0 dy) (up2 g 89 x7.toNat y12) 0 0 P) ∧ ((1000000 < ((up2 g 89 x7.toNat y12) 89 x7.toNat)) → P (some (I_ 7)) n (W0 dy) (up2 g 89 x7.toNat y12))))) : V miX12_parted (d + 1) 100 [(0, .ref 53), (1, I_ x1), (2, I_ x2), (3, I_ x3), (4, I_ x4), (5, L_ x5), (7, I_ x7)] [] n (W0 dy) g 0 0 P := by
  refine v_iload 58 6 rfl rfl ?_
  refine v_aload_n 59 0 rfl rfl rfl ?_
  refine v_gI 60 rfl fl12_351_11.r (al 53 rfl hn) (wk53 dy) (by decide) rfl (wc53_42 dy) (x := g 53 42) rfl ?_
  refine v_rng fun w1 => ?_
  have p2 : i3 (g 53 42) := rI w1 (q := 42) (al 53 rfl hn) (wk53 dy) rfl rfl
  have c3 := h.1
  have h := h.2
  refine v_icmp_ge 61 rfl (tgt := 175) rfl c3 p2 (fun q4 => ?_) (fun q4 => ?_)
  · have h := h.1 q4
    refine v_aload_n 99 0 rfl rfl rfl ?_
    refine v_gK 100 rfl fl12_29_11.r (al 53 rfl hn) (wk53 dy) (by decide) rfl (r := 60) (wc53_9 dy) ?_
    refine v_iload_n 101 1 rfl rfl rfl ?_
    have c5 := h.1
    have h := h.2
    refine v_ia (N := 60) 102 rfl (al 60 rfl hn) (wk60 dy) (wn60 dy) (by decide) c5 (y := g 60 x1.toNat) rfl ?_
    refine v_rng fun w6 => ?_
    have p7 : i3 (g 60 x1.toNat) := rI w6 (q := x1.toNat) (al 60 rfl hn) (wk60 dy) rfl rfl
    refine v_if_lt 103 rfl (tgt := 187) rfl p7 (fun q8 => ?_) (fun q8 => ?_)
    · have h := h.1 q8
      refine v_aload_n 106 0 rfl rfl rfl ?_
      refine v_iconst 107 rfl ?_
      refine v_putZ 108 rfl fl12_348_11 (al 53 rfl hn) (wk53 dy) (by decide) rfl (wc53_51 dy) (Or.inl rfl) ?_
      refine v_aload_n 109 0 rfl rfl rfl ?_
      refine v_iload_n 110 1 rfl rfl rfl ?_
      refine v_callV (st := []) [I_ x1] 111 rfl lv12_354_parted_11 (al 53 rfl hn) (wk53 dy) (by decide) rfl (Nat.le_refl _) (Nat.le_refl _) ?_
      exact h
    · have h := h.2 q8
      refine v_bipush 104 rfl (by decide) ?_
      exact v_ret (v := some (I_ 8)) 105 rfl (Nat.zero_le _) (Nat.zero_le _) trivial rfl h
  · have h := h.2 q4
    refine v_aload_n 62 0 rfl rfl rfl ?_
    refine v_gK 63 rfl fl12_118_11.r (al 53 rfl hn) (wk53 dy) (by decide) rfl (r := 89) (wc53_46 dy) ?_
    refine v_iload 64 6 rfl rfl ?_
    refine v_aload_n 65 0 rfl rfl rfl ?_
    refine v_gK 66 rfl fl12_16_11.r (al 53 rfl hn) (wk53 dy) (by decide) rfl (r := 56) (wc53_4 dy) ?_
    refine v_bipush 67 rfl (by decide) ?_
    refine v_iload_n 68 2 rfl rfl rfl ?_
    refine v_imul 69 rfl ?_
    refine v_iload 70 6 rfl rfl ?_
    refine v_iadd 71 rfl ?_
    have c9 := h.1
    have h := h.2
    refine v_la (N := 96) 72 rfl (al 56 rfl hn) (wk56 dy) (wn56 dy) (by decide) c9 (y := g 56 (((16 * x2) + x7).toNat)) rfl ?_
    refine v_rng fun w10 => ?_
    have p11 : i6 (g 56 (((16 * x2) + x7).toNat)) := rL w10 (q := (((16 * x2) + x7).toNat)) (al 56 rfl hn) (wk56 dy) rfl rfl
    refine v_nmL (fun y12 ey12 => ?_)
    have h := h y12 ey12
    have ry12 : i6 y12 := by rw [ey12]; exact p11
    have c13 := h.1
    have h := h.2
    refine v_last (N := 10) 73 rfl (al 89 rfl hn) (wk89 dy) (wn89 dy) (by decide) c13 ry12 ?_
    refine v_aload_n 74 0 rfl rfl rfl ?_
    refine v_gK 75 rfl fl12_118_11.r (al 53 rfl hn) (wk53 dy) (by decide) rfl (r := 89) (wc53_46 dy) ?_
    refine v_iload 76 6 rfl rfl ?_
    refine v_la (N := 10) 77 rfl (al 89 rfl hn) (wk89 dy) (wn89 dy) (by decide) c13 (y := (up2 g 89 x7.toNat y12) 89 x7.toNat) rfl ?_
    refine v_rng fun w14 => ?_
    have p15 : i6 ((up2 g 89 x7.toNat y12) 89 x7.toNat) := rL w14 (q := x7.toNat) (al 89 rfl hn) (wk89 dy) rfl rfl
    refine v_lconst (v := 1) 78 rfl (by decide) ?_
    refine v_lif_lt 79 rfl rfl (tgt := 154) rfl p15 (by decide) (fun q16 => ?_) (fun q16 => ?_)
    · have h := h.1 q16
      refine v_bipush 88 rfl (by decide) ?_
      exact v_ret (v := some (I_ 7)) 89 rfl (Nat.zero_le _) (Nat.zero_le _) trivial rfl h
    · have h := h.2 q16
      refine v_aload_n 81 0 rfl rfl rfl ?_
      refine v_gK 82 rfl fl12_118_11.r (al 53 rfl hn) (wk53 dy) (by decide) rfl (r := 89) (wc53_46 dy) ?_
      refine v_iload 83 6 rfl rfl ?_
      refine v_la (N := 10) 84 rfl (al 89 rfl hn) (wk89 dy) (wn89 dy) (by decide) c13 (y := (up2 g 89 x7.toNat y12) 89 x7.toNat) rfl ?_
      refine v_rng fun w17 => ?_
      have p18 : i6 ((up2 g 89 x7.toNat y12) 89 x7.toNat) := rL w17 (q := x7.toNat) (al 89 rfl hn) (wk89 dy) rfl rfl
      refine v_ldc2 (v := 1000000) 85 rfl (tbG_in (List.mem_append_right _ (List.mem_of_getElem? (i := 1347) (by decide +kernel))) rfl) ?_
      refine v_lif_le 86 rfl rfl (tgt := 157) rfl p18 (by decide) (fun q19 => ?_) (fun q19 => ?_)
      · have h := h.1 q19
        refine v_lload 90 5 rfl rfl ?_
        refine v_aload_n 91 0 rfl rfl rfl ?_
        refine v_gK 92 rfl fl12_118_11.r (al 53 rfl hn) (wk53 dy) (by decide) rfl (r := 89) (wc53_46 dy) ?_
        refine v_iload 93 6 rfl rfl ?_
        refine v_la (N := 10) 94 rfl (al 89 rfl hn) (wk89 dy) (wn89 dy) (by decide) c13 (y := (up2 g 89 x7.toNat y12) 89 x7.toNat) rfl ?_
        refine v_rng fun w20 => ?_
        have p21 : i6 ((up2 g 89 x7.toNat y12) 89 x7.toNat) := rL w20 (q := x7.toNat) (al 89 rfl hn) (wk89 dy) rfl rfl
        refine v_ladd 95 rfl ?_
        refine v_nmL (fun y22 ey22 => ?_)
        have h := h y22 ey22
        refine v_lstore 96 [1, 2, 3, 4, 5, 0, 6] rfl (by decide) rfl ?_
        refine v_iinc 97 6 [1, 2, 3, 4, 5, 6, 0] rfl rfl (by decide) rfl ?_
        refine v_goto 98 rfl (tgt := 100) rfl ?_
        exact h
      · have h := h.2 q19
        refine v_bipush 88 rfl (by decide) ?_
        exact v_ret (v := some (I_ 7)) 89 rfl (Nat.zero_le _) (Nat.zero_le _) trivial rfl h
set_option maxHeartbeats 8000000 in
set_option maxRecDepth 4000 in
theorem bX12_parted_197 {d n : Nat} {dy : Nat → Shp} {g : Hp} {P : Pst} {x1 : Int} {x2 : Int} {x3 : Int} {x4 : Int} {x5 : Int} {x7 : Int} {xs0 : Int} (hn : 100 ≤ n) (h : (i3 xs0) ∧ ((xs0 ≤ 0) → V miX12_parted (d + 1) 210 [(0, .ref 53), (1, I_ x1), (2, I_ x2), (3, I_ x3), (4, I_ x4), (5, L_ x5), (7, I_ xs0), (8, I_ 0)] [] n (W0 dy) g 0 0 P) ∧ ((0 < xs0) → P (some (I_ xs0)) n (W0 dy) g)) : V miX12_parted (d + 1) 197 [(0, .ref 53), (1, I_ x1), (2, I_ x2), (3, I_ x3), (4, I_ x4), (5, L_ x5), (7, I_ x7)] [I_ xs0] n (W0 dy) g 0 0 P := by
  refine v_istore 112 [1, 2, 3, 4, 5, 6, 0] rfl (by decide) rfl ?_
  refine v_iload 113 6 rfl rfl ?_
  have c1 := h.1
  have h := h.2
  refine v_if_le 114 rfl (tgt := 207) rfl c1 (fun q2 => ?_) (fun q2 => ?_)
  · have h := h.1 q2
    refine v_iconst 117 rfl ?_
    refine v_istore 118 [1, 2, 3, 4, 5, 6, 7, 0] rfl (by decide) rfl ?_
    exact h
  · have h := h.2 q2
    refine v_iload 115 6 rfl rfl ?_
    exact v_ret (v := some (I_ xs0)) 116 rfl (Nat.zero_le _) (Nat.zero_le _) trivial rfl h
set_option maxHeartbeats 8000000 in
set_option maxRecDepth 4000 in
theorem bX12_parted_210 {d n : Nat} {dy : Nat → Shp} {g : Hp} {P : Pst} {x1 : Int} {x2 : Int} {x3 : Int} {x4 : Int} {x5 : Int} {x7 : Int} {x8 : Int} (hn : 100 ≤ n) (h : (i3 x8) ∧ (((g 53 41) ≤ x8) → P (some (I_ 0)) n (W0 dy) g) ∧ ((x8 < (g 53 41)) → (((g 53 51) ≠ 0) → (0 ≤ x8 ∧ x8 < 8) ∧ V miX12_parted (d + 1) 210 [(0, .ref 53), (1, I_ x1), (2, I_ x2), (3, I_ x3), (4, I_ x4), (5, L_ x5), (7, I_ x7), (8, I_ (x8 + 1))] [] n (W0 dy) (up2 g 88 x8.toNat ((-1))) 0 0 P) ∧ (((g 53 51) = 0) → (0 ≤ x8 ∧ x8 < 8) ∧ (i6 x5) ∧ ((x5 < (g 93 x8.toNat)) → V miX12_parted (d + 1) 210 [(0, .ref 53), (1, I_ x1), (2, I_ x2), (3, I_ x3), (4, I_ x4), (5, L_ x5), (7, I_ x7), (8, I_ (x8 + 1))] [] n (W0 dy) (up2 g 88 x8.toNat ((-1))) 0 0 P) ∧ (((g 93 x8.toNat) ≤ x5) → (i6 (x5 * (g 92 x8.toNat))) ∧ (g 93 x8.toNat ≠ 0) ∧ (i6 ((x5 * (g 92 x8.toNat)).tmod (g 93 x8.toNat))) ∧ ((((x5 * (g 92 x8.toNat)).tmod (g 93 x8.toNat)) = 0) → (g 93 x8.toNat ≠ 0) ∧ ∀ y27 : Int, y27 = (x5 * (g 92 x8.toNat)).tdiv (g 93 x8.toNat) → (i6 y27) ∧ V miX12_parted (d + 1) 210 [(0, .ref 53), (1, I_ x1), (2, I_ x2), (3, I_ x3), (4, I_ x4), (5, L_ x5), (7, I_ x7), (8, I_ (x8 + 1))] [] n (W0 dy) (up2 g 88 x8.toNat y27) 0 0 P) ∧ ((((x5 * (g 92 x8.toNat)).tmod (g 93 x8.toNat)) ≠ 0) → V miX12_parted (d + 1) 210 [(0, .ref 53), (1, I_ x1), (2, I_ x2), (3, I_ x3), (4, I_ x4), (5, L_ x5), (7, I_ x7), (8, I_ (x8 + 1))] [] n (W0 dy) (up2 g 88 x8.toNat ((-1))) 0 0 P))))) : V miX12_parted (d + 1) 210 [(0, .ref 53), (1, I_ x1), (2, I_ x2), (3, I_ x3), (4, I_ x4), (5, L_ x5), (7, I_ x7), (8, I_ x8)] [] n (W0 dy) g 0 0 P := by
  refine v_iload 119 7 rfl rfl ?_
  refine v_aload_n 120 0 rfl rfl rfl ?_
  refine v_gI 121 rfl fl12_340_11.r (al 53 rfl hn) (wk53 dy) (by decide) rfl (wc53_41 dy) (x := g 53 41) rfl ?_
  refine v_rng fun w1 => ?_
  have p2 : i3 (g 53 41) := rI w1 (q := 41) (al 53 rfl hn) (wk53 dy) rfl rfl
  have c3 := h.1
  have h := h.2
  refine v_icmp_ge 122 rfl (tgt := 299) rfl c3 p2 (fun q4 => ?_) (fun q4 => ?_)
  · have h := h.1 q4
    refine v_iconst 166 rfl ?_
    exact v_ret (v := some (I_ 0)) 167 rfl (Nat.zero_le _) (Nat.zero_le _) trivial rfl h
  · have h := h.2 q4
    refine v_aload_n 123 0 rfl rfl rfl ?_
    refine v_gK 124 rfl fl12_115_11.r (al 53 rfl hn) (wk53 dy) (by decide) rfl (r := 88) (wc53_45 dy) ?_
    refine v_iload 125 7 rfl rfl ?_
    refine v_aload_n 126 0 rfl rfl rfl ?_
    refine v_gI 127 rfl fl12_348_11.r (al 53 rfl hn) (wk53 dy) (by decide) rfl (wc53_51 dy) (x := g 53 51) rfl ?_
    refine v_rng fun w5 => ?_
    have p6 : i3 (g 53 51) := rI w5 (q := 51) (al 53 rfl hn) (wk53 dy) rfl rfl
    refine v_if_ne 128 rfl (tgt := 268) rfl p6 (fun q7 => ?_) (fun q7 => ?_)
    · have h := h.1 q7
      refine v_ldc2 (v := (-1)) 150 rfl (tbG_in (List.mem_append_right _ (List.mem_of_getElem? (i := 1334) (by decide +kernel))) rfl) ?_
      refine v_goto 151 rfl (tgt := 292) rfl ?_
      have c8 := h.1
      have h := h.2
      refine v_last (N := 8) 163 rfl (al 88 rfl hn) (wk88 dy) (wn88 dy) (by decide) c8 (by decide) ?_
      refine v_iinc 164 7 [1, 2, 3, 4, 5, 6, 7, 0] rfl rfl (by decide) rfl ?_
      refine v_goto 165 rfl (tgt := 210) rfl ?_
      exact h
    · have h := h.2 q7
      refine v_aload_n 129 0 rfl rfl rfl ?_
      refine v_gK 130 rfl fl12_130_11.r (al 53 rfl hn) (wk53 dy) (by decide) rfl (r := 93) (wc53_50 dy) ?_
      refine v_iload 131 7 rfl rfl ?_
      have c9 := h.1
      have h := h.2
      refine v_la (N := 8) 132 rfl (al 93 rfl hn) (wk93 dy) (wn93 dy) (by decide) c9 (y := g 93 x8.toNat) rfl ?_
      refine v_rng fun w10 => ?_
      have p11 : i6 (g 93 x8.toNat) := rL w10 (q := x8.toNat) (al 93 rfl hn) (wk93 dy) rfl rfl
      refine v_lload 133 5 rfl rfl ?_
      have c12 := h.1
      have h := h.2
      refine v_lif_gt 134 rfl rfl (tgt := 268) rfl p11 c12 (fun q13 => ?_) (fun q13 => ?_)
      · have h := h.1 q13
        refine v_ldc2 (v := (-1)) 150 rfl (tbG_in (List.mem_append_right _ (List.mem_of_getElem? (i := 1334) (by decide +kernel))) rfl) ?_
        refine v_goto 151 rfl (tgt := 292) rfl ?_
        refine v_last (N := 8) 163 rfl (al 88 rfl hn) (wk88 dy) (wn88 dy) (by decide) c9 (by decide) ?_
        refine v_iinc 164 7 [1, 2, 3, 4, 5, 6, 7, 0] rfl rfl (by decide) rfl ?_
        refine v_goto 165 rfl (tgt := 210) rfl ?_
        exact h
      · have h := h.2 q13
        refine v_lload 136 5 rfl rfl ?_
        refine v_aload_n 137 0 rfl rfl rfl ?_
        refine v_gK 138 rfl fl12_127_11.r (al 53 rfl hn) (wk53 dy) (by decide) rfl (r := 92) (wc53_49 dy) ?_
        refine v_iload 139 7 rfl rfl ?_
        refine v_la (N := 8) 140 rfl (al 92 rfl hn) (wk92 dy) (wn92 dy) (by decide) c9 (y := g 92 x8.toNat) rfl ?_
        refine v_rng fun w14 => ?_
        have p15 : i6 (g 92 x8.toNat) := rL w14 (q := x8.toNat) (al 92 rfl hn) (wk92 dy) rfl rfl
        refine v_lmul 141 rfl ?_
        refine v_aload_n 142 0 rfl rfl rfl ?_
        refine v_gK 143 rfl fl12_130_11.r (al 53 rfl hn) (wk53 dy) (by decide) rfl (r := 93) (wc53_50 dy) ?_
        refine v_iload 144 7 rfl rfl ?_
        refine v_la (N := 8) 145 rfl (al 93 rfl hn) (wk93 dy) (wn93 dy) (by decide) c9 (y := g 93 x8.toNat) rfl ?_
        refine v_rng fun w16 => ?_
        have p17 : i6 (g 93 x8.toNat) := rL w16 (q := x8.toNat) (al 93 rfl hn) (wk93 dy) rfl rfl
        have c18 := h.1
        have h := h.2
        have c19 := h.1
        have h := h.2
        refine v_lrem 146 rfl c18 p17 c19 ?_
        refine v_lconst (v := 0) 147 rfl (by decide) ?_
        have c20 := h.1
        have h := h.2
        refine v_lif_eq 148 rfl rfl (tgt := 274) rfl c20 (by decide) (fun q21 => ?_) (fun q21 => ?_)
        · have h := h.1 q21
          refine v_lload 152 5 rfl rfl ?_
          refine v_aload_n 153 0 rfl rfl rfl ?_
          refine v_gK 154 rfl fl12_127_11.r (al 53 rfl hn) (wk53 dy) (by decide) rfl (r := 92) (wc53_49 dy) ?_
          refine v_iload 155 7 rfl rfl ?_
          refine v_la (N := 8) 156 rfl (al 92 rfl hn) (wk92 dy) (wn92 dy) (by decide) c9 (y := g 92 x8.toNat) rfl ?_
          refine v_rng fun w22 => ?_
          have p23 : i6 (g 92 x8.toNat) := rL w22 (q := x8.toNat) (al 92 rfl hn) (wk92 dy) rfl rfl
          refine v_lmul 157 rfl ?_
          refine v_aload_n 158 0 rfl rfl rfl ?_
          refine v_gK 159 rfl fl12_130_11.r (al 53 rfl hn) (wk53 dy) (by decide) rfl (r := 93) (wc53_50 dy) ?_
          refine v_iload 160 7 rfl rfl ?_
          refine v_la (N := 8) 161 rfl (al 93 rfl hn) (wk93 dy) (wn93 dy) (by decide) c9 (y := g 93 x8.toNat) rfl ?_
          refine v_rng fun w24 => ?_
          have p25 : i6 (g 93 x8.toNat) := rL w24 (q := x8.toNat) (al 93 rfl hn) (wk93 dy) rfl rfl
          have c26 := h.1
          have h := h.2
          refine v_ldiv 162 rfl c18 p25 c26 ?_
          refine v_nmL (fun y27 ey27 => ?_)
          have h := h y27 ey27
          have c28 := h.1
          have h := h.2
          refine v_last (N := 8) 163 rfl (al 88 rfl hn) (wk88 dy) (wn88 dy) (by decide) c9 c28 ?_
          refine v_iinc 164 7 [1, 2, 3, 4, 5, 6, 7, 0] rfl rfl (by decide) rfl ?_
          refine v_goto 165 rfl (tgt := 210) rfl ?_
          exact h
        · have h := h.2 q21
          refine v_ldc2 (v := (-1)) 150 rfl (tbG_in (List.mem_append_right _ (List.mem_of_getElem? (i := 1334) (by decide +kernel))) rfl) ?_
          refine v_goto 151 rfl (tgt := 292) rfl ?_
          refine v_last (N := 8) 163 rfl (al 88 rfl hn) (wk88 dy) (wn88 dy) (by decide) c9 (by decide) ?_
          refine v_iinc 164 7 [1, 2, 3, 4, 5, 6, 7, 0] rfl rfl (by decide) rfl ?_
          refine v_goto 165 rfl (tgt := 210) rfl ?_
          exact h
theorem wX12_parted {d n : Nat} {dy : Nat → Shp} {g : Hp} {P : Pst} {x1 : Int} {x2 : Int} {x3 : Int} {x4 : Int} (hn : 100 ≤ n) (h : (i3 x2) ∧ ((x2 < 0) → P (some (I_ 1)) n (W0 dy) g) ∧ ((0 ≤ x2) → ((x2 < 6) → Runs miX12_isPart d [.ref 53, I_ x1] n (W0 dy) g (fun v n' S' g' => V miX12_parted (d + 1) 17 [(0, .ref 53), (1, I_ x1), (2, I_ x2), (3, I_ x3), (4, I_ x4)] (v.toList ++ []) n' S' g' 0 0 P)) ∧ ((6 ≤ x2) → P (some (I_ 1)) n (W0 dy) g))) : Runs miX12_parted (d + 1) [.ref 53, I_ x1, I_ x2, I_ x3, I_ x4] n (W0 dy) g P := Runs.of rfl rfl deX12_parted (Nat.le_of_ble_eq_true rfl) (bX12_parted_0 hn h)
set_option maxHeartbeats 8000000 in
set_option maxRecDepth 4000 in
theorem bX12_isFirstOf_0 {d n : Nat} {dy : Nat → Shp} {g : Hp} {P : Pst} {x1 : Int} {x2 : Int} (hn : 100 ≤ n) (h : V miX12_isFirstOf d 2 [(0, .ref 53), (1, I_ x1), (2, I_ x2), (3, I_ 0)] [] n (W0 dy) g 0 0 P) : V miX12_isFirstOf d 0 [(0, .ref 53), (1, I_ x1), (2, I_ x2)] [] n (W0 dy) g 0 0 P := by
  refine v_iconst 0 rfl ?_
  refine v_istore_n 1 [1, 2, 3, 0] rfl rfl (by decide) rfl ?_
  exact h
set_option maxHeartbeats 8000000 in
set_option maxRecDepth 4000 in
theorem bX12_isFirstOf_2 {d n : Nat} {dy : Nat → Shp} {g : Hp} {P : Pst} {x1 : Int} {x2 : Int} {x3 : Int} (hn : 100 ≤ n) (h : (i3 x3) ∧ (((g 53 42) ≤ x3) → P (some (I_ 1)) n (W0 dy) g) ∧ ((x3 < (g 53 42)) → (((and3 (shr3 x1 x3) 1) ≠ 0) → V miX12_isFirstOf d 24 [(0, .ref 53), (1, I_ x1), (2, I_ x2), (3, I_ x3), (4, I_ 0)] [] n (W0 dy) g 0 0 P) ∧ (((and3 (shr3 x1 x3) 1) = 0) → V miX12_isFirstOf d 2 [(0, .ref 53), (1, I_ x1), (2, I_ x2), (3, I_ (x3 + 1))] [] n (W0 dy) g 0 0 P))) : V miX12_isFirstOf d 2 [(0, .ref 53), (1, I_ x1), (2, I_ x2), (3, I_ x3)] [] n (W0 dy) g 0 0 P := by
  refine v_iload_n 2 3 rfl rfl rfl ?_
  refine v_aload_n 3 0 rfl rfl rfl ?_
  refine v_gI 4 rfl fl12_351_11.r (al 53 rfl hn) (wk53 dy) (by decide) rfl (wc53_42 dy) (x := g 53 42) rfl ?_
  refine v_rng fun w1 => ?_
  have p2 : i3 (g 53 42) := rI w1 (q := 42) (al 53 rfl hn) (wk53 dy) rfl rfl
  have c3 := h.1
  have h := h.2
  refine v_icmp_ge 5 rfl (tgt := 80) rfl c3 p2 (fun q4 => ?_) (fun q4 => ?_)
  · have h := h.1 q4
    refine v_iconst 47 rfl ?_
    exact v_ret (v := some (I_ 1)) 48 rfl (Nat.zero_le _) (Nat.zero_le _) (Or.inr rfl) rfl h
  · have h := h.2 q4
    refine v_iload_n 6 1 rfl rfl rfl ?_
    refine v_iload_n 7 3 rfl rfl rfl ?_
    refine v_ishr 8 rfl ?_
    refine v_iconst 9 rfl ?_
    refine v_iand 10 rfl ?_
    refine v_if_ne 11 rfl (tgt := 21) rfl (and3_r _ _) (fun q5 => ?_) (fun q5 => ?_)
    · have h := h.1 q5
      refine v_iconst 13 rfl ?_
      refine v_istore 14 [1, 2, 3, 4, 0] rfl (by decide) rfl ?_
      exact h
    · have h := h.2 q5
      refine v_goto 12 rfl (tgt := 74) rfl ?_
      refine v_iinc 45 3 [1, 2, 3, 0] rfl rfl (by decide) rfl ?_
      refine v_goto 46 rfl (tgt := 2) rfl ?_
      exact h
set_option maxHeartbeats 8000000 in
set_option maxRecDepth 4000 in
theorem bX12_isFirstOf_24 {d n : Nat} {dy : Nat → Shp} {g : Hp} {P : Pst} {x1 : Int} {x2 : Int} {x3 : Int} {x4 : Int} (hn : 100 ≤ n) (h : (i3 x4) ∧ (i3 x3) ∧ ((x3 ≤ x4) → V miX12_isFirstOf d 2 [(0, .ref 53), (1, I_ x1), (2, I_ x2), (3, I_ (x3 + 1))] [] n (W0 dy) g 0 0 P) ∧ ((x4 < x3) → (0 ≤ x4 ∧ x4 < 10) ∧ (0 ≤ x3 ∧ x3 < 10) ∧ (((g 89 x4.toNat) ≠ (g 89 x3.toNat)) → V miX12_isFirstOf d 24 [(0, .ref 53), (1, I_ x1), (2, I_ x2), (3, I_ x3), (4, I_ (x4 + 1))] [] n (W0 dy) g 0 0 P) ∧ (((g 89 x4.toNat) = (g 89 x3.toNat)) → (((and3 (shr3 x2 x4) 1) ≠ 1) → V miX12_isFirstOf d 24 [(0, .ref 53), (1, I_ x1), (2, I_ x2), (3, I_ x3), (4, I_ (x4 + 1))] [] n (W0 dy) g 0 0 P) ∧ (((and3 (shr3 x2 x4) 1) = 1) → (((and3 (shr3 x1 x4) 1) ≠ 0) → V miX12_isFirstOf d 24 [(0, .ref 53), (1, I_ x1), (2, I_ x2), (3, I_ x3), (4, I_ (x4 + 1))] [] n (W0 dy) g 0 0 P) ∧ (((and3 (shr3 x1 x4) 1) = 0) → P (some (I_ 0)) n (W0 dy) g))))) : V miX12_isFirstOf d 24 [(0, .ref 53), (1, I_ x1), (2, I_ x2), (3, I_ x3), (4, I_ x4)] [] n (W0 dy) g 0 0 P := by
  refine v_iload 15 4 rfl rfl ?_
  refine v_iload_n 16 3 rfl rfl rfl ?_
  have c1 := h.1
  have h := h.2
  have c2 := h.1
  have h := h.2
  refine v_icmp_ge 17 rfl (tgt := 74) rfl c1 c2 (fun q3 => ?_) (fun q3 => ?_)
  · have h := h.1 q3
    refine v_iinc 45 3 [1, 2, 3, 0, 4] rfl rfl (by decide) rfl ?_
    refine v_goto 46 rfl (tgt := 2) rfl ?_
    refine v_loc [0, 1, 2, 3] rfl ?_
    exact h
  · have h := h.2 q3
    refine v_aload_n 18 0 rfl rfl rfl ?_
    refine v_gK 19 rfl fl12_118_11.r (al 53 rfl hn) (wk53 dy) (by decide) rfl (r := 89) (wc53_46 dy) ?_
    refine v_iload 20 4 rfl rfl ?_
    have c4 := h.1
    have h := h.2
    refine v_la (N := 10) 21 rfl (al 89 rfl hn) (wk89 dy) (wn89 dy) (by decide) c4 (y := g 89 x4.toNat) rfl ?_
    refine v_rng fun w5 => ?_
    have p6 : i6 (g 89 x4.toNat) := rL w5 (q := x4.toNat) (al 89 rfl hn) (wk89 dy) rfl rfl
    refine v_aload_n 22 0 rfl rfl rfl ?_
    refine v_gK 23 rfl fl12_118_11.r (al 53 rfl hn) (wk53 dy) (by decide) rfl (r := 89) (wc53_46 dy) ?_
    refine v_iload_n 24 3 rfl rfl rfl ?_
    have c7 := h.1
    have h := h.2
    refine v_la (N := 10) 25 rfl (al 89 rfl hn) (wk89 dy) (wn89 dy) (by decide) c7 (y := g 89 x3.toNat) rfl ?_
    refine v_rng fun w8 => ?_
    have p9 : i6 (g 89 x3.toNat) := rL w8 (q := x3.toNat) (al 89 rfl hn) (wk89 dy) rfl rfl
    refine v_lif_ne 26 rfl rfl (tgt := 68) rfl p6 p9 (fun q10 => ?_) (fun q10 => ?_)
    · have h := h.1 q10
      refine v_iinc 43 4 [1, 2, 3, 4, 0] rfl rfl (by decide) rfl ?_
      refine v_goto 44 rfl (tgt := 24) rfl ?_
      exact h
    · have h := h.2 q10
      refine v_iload_n 28 2 rfl rfl rfl ?_
      refine v_iload 29 4 rfl rfl ?_
      refine v_ishr 30 rfl ?_
      refine v_iconst 31 rfl ?_
      refine v_iand 32 rfl ?_
      refine v_iconst 33 rfl ?_
      refine v_icmp_ne 34 rfl (tgt := 68) rfl (and3_r _ _) (by decide) (fun q11 => ?_) (fun q11 => ?_)
      · have h := h.1 q11
        refine v_iinc 43 4 [1, 2, 3, 4, 0] rfl rfl (by decide) rfl ?_
        refine v_goto 44 rfl (tgt := 24) rfl ?_
        exact h
      · have h := h.2 q11
        refine v_iload_n 35 1 rfl rfl rfl ?_
        refine v_iload 36 4 rfl rfl ?_
        refine v_ishr 37 rfl ?_
        refine v_iconst 38 rfl ?_
        refine v_iand 39 rfl ?_
        refine v_if_ne 40 rfl (tgt := 68) rfl (and3_r _ _) (fun q12 => ?_) (fun q12 => ?_)
        · have h := h.1 q12
          refine v_iinc 43 4 [1, 2, 3, 4, 0] rfl rfl (by decide) rfl ?_
          refine v_goto 44 rfl (tgt := 24) rfl ?_
          exact h
        · have h := h.2 q12
          refine v_iconst 41 rfl ?_
          exact v_ret (v := some (I_ 0)) 42 rfl (Nat.zero_le _) (Nat.zero_le _) (Or.inl rfl) rfl h
theorem wX12_isFirstOf {d n : Nat} {dy : Nat → Shp} {g : Hp} {P : Pst} {x1 : Int} {x2 : Int} (hn : 100 ≤ n) (h : V miX12_isFirstOf d 2 [(0, .ref 53), (1, I_ x1), (2, I_ x2), (3, I_ 0)] [] n (W0 dy) g 0 0 P) : Runs miX12_isFirstOf d [.ref 53, I_ x1, I_ x2] n (W0 dy) g P := Runs.of rfl rfl deX12_isFirstOf (Nat.le_of_ble_eq_true rfl) (bX12_isFirstOf_0 hn h)
