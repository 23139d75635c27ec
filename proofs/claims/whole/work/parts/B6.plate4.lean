/-! PLATE: the class -/
section PlateC2
variable {d n m : Nat} {dy : Nat → Shp} {g a G : Hp} {P : Pst}
theorem cs_at {t q : Nat} (hC : Ca n dy g a) (hI : Inv a) (ht : t < 6) (hq : (q : Int) < a 55 t) (h : P (some (L_ (a 56 (16 * t + q)))) n (W0 dy) g) : Runs miX9_at (d + 1) [.ref (41 + 2 * t), I_ (q : Int)] n (W0 dy) g P := by
  have hn := hC.1
  have tr := tr_ok (dy := dy) hn ht
  rcases hC.tk hI ht with ⟨k1, k2⟩ | ⟨k1, k2, k3, k4, k5⟩
  · omega
  · refine wX9_at hn ⟨tr, wX9_has hn ⟨⟨by omega, by omega⟩, fun z => by omega, fun _ => ⟨tr, fun z => by omega, fun z => ⟨fun z2 => by omega, fun _ => ?_⟩⟩⟩⟩
    refine bX9_at_5 hn ⟨by decide, fun z => absurd z (by decide), fun _ => ⟨tr, ⟨by omega, by omega⟩, ?_⟩⟩
    rw [show 41 + 2 * t + 1 = 42 + 2 * t by omega, show ((q : Nat) : Int).toNat = q from rfl, k5 q hq]
    exact h
theorem cs_far {v : Int} (hn : 100 ≤ n) (hv : i6 v) (h0 : (-1000 ≤ v ∧ v ≤ 1000) → P (some (I_ 0)) n (W0 dy) g) (h1 : ¬ (-1000 ≤ v ∧ v ≤ 1000) → P (some (I_ 1)) n (W0 dy) g) : Runs miX5_isTooFar d [L_ v] n (W0 dy) g P :=
  wX5_isTooFar hn ⟨hv, fun c => h1 (by omega), fun c => ⟨fun c2 => h0 ⟨c, c2⟩, fun c2 => h1 (by omega)⟩⟩
theorem cs_draw {t : Nat} (hC : Ca n dy g a) (hI : Inv a) (hr6 : ∀ q, q < 2 * m → i6 (a 56 (16 * t + q))) (ht : t < 6) (hm : 3 ≤ m ∧ m ≤ 8) (h2 : 2 * (m : Int) ≤ a 55 t) (h0 : ¬ okN a t m → ∀ G, (∀ i q, i ≠ 6 → i ≠ 7 → i ≠ 8 → G i q = g i q) → P (some (I_ 0)) n (W0 dy) G) (h1 : okN a t m → ∀ G, (∀ i q, i ≠ 6 → i ≠ 7 → i ≠ 8 → G i q = g i q) → G 6 2 = (m : Int) → (∀ i, i < m → G 7 i = cX a t i ∧ G 8 i = cY a t i) → P (some (I_ 1)) n (W0 dy) G) : Runs miX5_draw (d + 2) [.ref 6, .ref (41 + 2 * t), I_ (m : Int)] n (W0 dy) g P := by
  have hn := hC.1
  have tr := tr_ok (dy := dy) hn ht
  have key : ∀ (f k : Nat) (G : Hp), k + f = m → (∀ i q, i ≠ 6 → i ≠ 7 → i ≠ 8 → G i q = g i q) → G 6 2 = (m : Int) → (∀ i, i < k → ((-1000 ≤ cX a t i ∧ cX a t i ≤ 1000) ∧ (-1000 ≤ cY a t i ∧ cY a t i ≤ 1000)) ∧ G 7 i = cX a t i ∧ G 8 i = cY a t i) → V miX5_draw (d + 2) 12 [(0, .ref 6), (1, .ref (41 + 2 * t)), (2, I_ (m : Int)), (3, I_ (k : Int))] [] n (W0 dy) G 0 0 P := by
    intro f
    induction f with
    | zero =>
      intro k G hk g1 g2 g3
      refine bX5_draw_12 hn ⟨⟨by omega, by omega⟩, fun _ => h1 (fun j hj => ?_) G g1 g2 (fun i hi => (g3 i (by omega)).2), fun q => by omega⟩
      have := (g3 (j / 2) (by omega)).1
      by_cases c : j % 2 = 0
      · have e := this.1
        unfold cX at e
        rw [show 2 * (j / 2) = j by omega] at e; exact e
      · have e := this.2
        unfold cY at e
        rw [show 2 * (j / 2) + 1 = j by omega] at e; exact e
    | succ f ih =>
      intro k G hk g1 g2 g3
      have hCG : Ca n dy G a := hC.keep fun i q hi => g1 i q (by unfold cl at hi; omega) (by unfold cl at hi; omega) (by unfold cl at hi; omega)
      have bad : ¬ ((-1000 ≤ cX a t k ∧ cX a t k ≤ 1000) ∧ (-1000 ≤ cY a t k ∧ cY a t k ≤ 1000)) → P (some (I_ 0)) n (W0 dy) G := fun z => h0 (fun w => z (okN_c w k (by omega))) G g1
      refine bX5_draw_12 hn ⟨⟨by omega, by omega⟩, fun q => by omega, fun _ => ⟨tr, ?_⟩⟩
      rw [show 2 * (k : Int) = ((2 * k : Nat) : Int) by omega]
      refine cs_at hCG hI ht (by omega) ?_
      show V miX5_draw (d + 2) 27 [(0, .ref 6), (1, .ref (41 + 2 * t)), (2, I_ (m : Int)), (3, I_ (k : Int))] [L_ (cX a t k)] n (W0 dy) G 0 0 P
      refine bX5_draw_27 hn ⟨tr, ?_⟩
      rw [show 2 * (k : Int) + 1 = ((2 * k + 1 : Nat) : Int) by omega]
      refine cs_at hCG hI ht (by omega) ?_
      show V miX5_draw (d + 2) 38 [(0, .ref 6), (1, .ref (41 + 2 * t)), (2, I_ (m : Int)), (3, I_ (k : Int)), (4, L_ (cX a t k))] [L_ (cY a t k)] n (W0 dy) G 0 0 P
      refine bX5_draw_38 hn (cs_far hn (hr6 (2 * k) (by omega)) (fun z => bX5_draw_45 hn ⟨by decide, fun q => absurd rfl q, fun _ => cs_far hn (hr6 (2 * k + 1) (by omega)) (fun z2 => bX5_draw_53 hn ⟨by decide, fun _ => ⟨⟨by omega, by omega⟩, ⟨by omega, by omega⟩, ⟨by omega, by omega⟩, ?_⟩, fun q => absurd rfl q⟩) (fun z2 => bX5_draw_53 hn ⟨by decide, fun q => absurd q (by decide), fun _ => bad fun w => z2 w.2⟩)⟩) (fun z => bX5_draw_45 hn ⟨by decide, fun _ => bad fun w => z w.1, fun q => absurd q (by decide)⟩))
      refine ih (k + 1) _ (by omega) (fun i q i1 i2 i3 => by rw [up2_i i3, up2_i i2, g1 i q i1 i2 i3]) (by rw [up2_i (by omega), up2_i (by omega)]; exact g2) (fun i hi => ?_)
      show _ ∧ up2 (up2 G 7 k (cX a t k)) 8 k (cY a t k) 7 i = cX a t i ∧ up2 (up2 G 7 k (cX a t k)) 8 k (cY a t k) 8 i = cY a t i
      rw [up2_i (by omega), up2_k, up2_k]
      by_cases e : i = k
      · subst e
        rw [if_pos rfl, if_pos rfl]; exact ⟨⟨z, z2⟩, rfl, rfl⟩
      · rw [if_neg e, if_neg e, up2_i (by omega)]; exact g3 i (by omega)
  refine wX5_draw hn ⟨⟨by omega, by omega⟩, ?_⟩
  rw [show min (m : Int) 8 = (m : Int) by omega]
  exact key m 0 _ (by omega) (fun i q i1 _ _ => up2_i i1) up2_s (fun i hi => by omega)
/-- the constructor of a plate: what it leaves in the new cell c -/
theorem cs_newPlate {c N : Nat} (hn : 100 ≤ n) (hc : 100 ≤ c) (hR : RC g m) (ob : Ob n (W0 dy) c 3) (pt : Pt n (W0 dy) c) (hN : N < 60) (hA : isum (crsS (g 7) (g 8) m) m ≠ 0) (h : ∀ G, (∀ i q, i ≠ c → G i q = g i q) → (G c 0 = (N : Int) ∧ G c 1 = 4 ∧ G c 2 = ab (isum (crsS (g 7) (g 8) m) m) ∧ G c 3 = 0 ∧ G c 4 = -1 ∧ G c 5 = 0) → (∀ w, w < 4 → G c (10 + w) = (if w % 2 = 0 then (if 0 ≤ isum (crsS (g 7) (g 8) m) m then isum (fun i => ((if w < 2 then g 7 else g 8) i + (if w < 2 then g 7 else g 8) (nx_ m i)) * crsS (g 7) (g 8) m i) m else -isum (fun i => ((if w < 2 then g 7 else g 8) i + (if w < 2 then g 7 else g 8) (nx_ m i)) * crsS (g 7) (g 8) m i) m) else 3 * ab (isum (crsS (g 7) (g 8) m) m)).tdiv ((Int.gcd (if 0 ≤ isum (crsS (g 7) (g 8) m) m then isum (fun i => ((if w < 2 then g 7 else g 8) i + (if w < 2 then g 7 else g 8) (nx_ m i)) * crsS (g 7) (g 8) m i) m else -isum (fun i => ((if w < 2 then g 7 else g 8) i + (if w < 2 then g 7 else g 8) (nx_ m i)) * crsS (g 7) (g 8) m i) m) (3 * ab (isum (crsS (g 7) (g 8) m) m)) : Nat) : Int)) → P none n (W0 dy) G) : Runs miX4_init (d + 4) [.ref c, I_ (N : Int), .ref 6] n (W0 dy) g P := by
  have hm := hR.2.1
  have hb := hR.2.2
  have bd := isum_b (f := crsS (g 7) (g 8) m) (B := 2000000) (n := m) fun i hi => crs_bd hb hi
  have zb : ∀ z : Nat → Int, (∀ i, i < m → -1000 ≤ z i ∧ z i ≤ 1000) → (isum (fun i => (z i + z (nx_ m i)) * crsS (g 7) (g 8) m i) m).natAbs ≤ 4000000000 * m := fun z hz => isum_b fun i hi => by
    have := pb (x := z i + z (nx_ m i)) (y := crsS (g 7) (g 8) m i) (A := 2000) (B := 2000000) (by have := hz i hi; have := hz _ (nx_lt hi); omega) (crs_bd hb hi)
    omega
  have z7 := zb (g 7) fun i hi => (hb i hi).1
  have z8 := zb (g 8) fun i hi => (hb i hi).2
  have ba : 1 ≤ ab (isum (crsS (g 7) (g 8) m) m) ∧ ab (isum (crsS (g 7) (g 8) m) m) ≤ 16000000 := by unfold ab; split <;> omega
  refine wX4_init hn (cs_twice hn hR (bX4_init_7 hn ⟨pt, wX2_init hn ⟨pt, ⟨by omega, by omega⟩, by decide, ⟨by omega, by omega⟩, ?_⟩⟩))
  show V miX4_init (d + 4) 10 [(0, .ref c), (1, I_ (N : Int)), (2, .ref 6)] [] n (W0 dy) (nc2 g c (N : Int) 4 (ab (isum (crsS (g 7) (g 8) m) m))) 0 0 P
  obtain ⟨n0, n1, n2, n3, n4, n5, n6, n7⟩ := @nc2_at g c (N : Int) 4 (ab (isum (crsS (g 7) (g 8) m) m))
  clear n7
  generalize nc2 g c (N : Int) 4 (ab (isum (crsS (g 7) (g 8) m) m)) = G0 at *
  have e7 : G0 7 = g 7 := funext fun q => n6 7 q (by omega)
  have e8 : G0 8 = g 8 := funext fun q => n6 8 q (by omega)
  have hR0 : RC G0 m := by
    unfold RC
    rw [e7, e8, n6 6 2 (by omega)]; exact hR
  rw [← e7, ← e8] at h ba bd z7 z8 n2
  clear zb hA hb hR
  refine bX4_init_10 hn (cs_twice hn hR0 (bX4_init_17 hn ⟨⟨by omega, by omega⟩, cs_midSum hn hR0 (by decide) (z := G0 7) rfl (bX4_init_25 hn (cs_midSum hn hR0 (by decide) (z := G0 8) rfl (bX4_init_32 hn ?_)))⟩))
  generalize hT : isum (crsS (G0 7) (G0 8) m) m = T at *
  have h0 := h
  have hx : ∀ w, w < 4 → isum (fun i => ((if w < 2 then G0 7 else G0 8) i + (if w < 2 then G0 7 else G0 8) (nx_ m i)) * crsS (G0 7) (G0 8) m i) m = if w < 2 then isum (fun i => (G0 7 i + G0 7 (nx_ m i)) * crsS (G0 7) (G0 8) m i) m else isum (fun i => (G0 8 i + G0 8 (nx_ m i)) * crsS (G0 7) (G0 8) m i) m := fun w _ => by split <;> rfl
  generalize isum (fun i => (G0 7 i + G0 7 (nx_ m i)) * crsS (G0 7) (G0 8) m i) m = S7 at *
  generalize isum (fun i => (G0 8 i + G0 8 (nx_ m i)) * crsS (G0 7) (G0 8) m i) m = S8 at *
  have gpos : ∀ v : Int, 0 < Int.gcd v (3 * ab T) ∧ Int.gcd v (3 * ab T) ≤ 48000000 := fun v => by
    have gd : Int.gcd v (3 * ab T) ∣ (3 * ab T).natAbs := Nat.gcd_dvd_right _ _
    exact ⟨Nat.pos_of_dvd_of_pos gd (by omega), Nat.le_trans (Nat.le_of_dvd (by omega) gd) (by omega)⟩
  have b7 : (if 0 ≤ T then S7 else -S7).natAbs ≤ 32000000000 := by split <;> omega
  have b8 : (if 0 ≤ T then S8 else -S8).natAbs ≤ 32000000000 := by split <;> omega
  obtain ⟨V7, hV7⟩ : ∃ V7, V7 = if 0 ≤ T then S7 else -S7 := ⟨_, rfl⟩
  obtain ⟨V8, hV8⟩ : ∃ V8, V8 = if 0 ≤ T then S8 else -S8 := ⟨_, rfl⟩
  rw [← hV7] at b7
  rw [← hV8] at b8
  rw [← hV7, ← hV8]
  refine cs_common hn (by unfold mx6; omega) (by unfold mx6; omega) (bX4_init_40 hn (cs_common hn (by unfold mx6; omega) (by unfold mx6; omega) (bX4_init_48 hn ?_)))
  have g7 := gpos V7
  have g8 := gpos V8
  rw [if_neg (show ¬ Int.gcd V7 (3 * ab T) = 0 by omega), if_neg (show ¬ Int.gcd V8 (3 * ab T) = 0 by omega)]
  have dv : ∀ (v : Int) (D : Nat), v.natAbs ≤ 32000000000 → i6 (v.tdiv (D : Int)) := fun v D hv => by
    have := Int.natAbs_tdiv_le_natAbs v (D : Int)
    exact ⟨by omega, by omega⟩
  have b3 : (3 * ab T).natAbs ≤ 32000000000 := by omega
  refine ⟨⟨by omega, by omega⟩, ⟨by omega, by omega⟩, by omega, ob, dv _ _ b7, ⟨by omega, by omega⟩, by omega, dv _ _ b3, ⟨by omega, by omega⟩, ⟨by omega, by omega⟩, by omega, dv _ _ b8, by omega, dv _ _ b3, ?_⟩
  refine h _ (fun i q hi => by rw [up2_i hi, up2_i hi, up2_i hi, up2_i hi, n6 i q hi]) ⟨?_, ?_, ?_, ?_, ?_, ?_⟩ (fun w hw => ?_)
  · rw [up2_k, if_neg (by omega), up2_k, if_neg (by omega), up2_k, if_neg (by omega), up2_k, if_neg (by omega), n0]
  · rw [up2_k, if_neg (by omega), up2_k, if_neg (by omega), up2_k, if_neg (by omega), up2_k, if_neg (by omega), n1]
  · rw [up2_k, if_neg (by omega), up2_k, if_neg (by omega), up2_k, if_neg (by omega), up2_k, if_neg (by omega), n2]
  · rw [up2_k, if_neg (by omega), up2_k, if_neg (by omega), up2_k, if_neg (by omega), up2_k, if_neg (by omega), n3]
  · rw [up2_k, if_neg (by omega), up2_k, if_neg (by omega), up2_k, if_neg (by omega), up2_k, if_neg (by omega), n4]
  · rw [up2_k, if_neg (by omega), up2_k, if_neg (by omega), up2_k, if_neg (by omega), up2_k, if_neg (by omega), n5]
  · rw [hx w hw]
    match w, hw with
    | 0, _ => rw [up2_k, if_neg (by omega), up2_k, if_neg (by omega), up2_k, if_neg (by omega), up2_s, hV7]; rfl
    | 1, _ => rw [up2_k, if_neg (by omega), up2_k, if_neg (by omega), up2_s, hV7]; rfl
    | 2, _ => rw [up2_k, if_neg (by omega), up2_s, hV8]; rfl
    | 3, _ => rw [up2_s, hV8]; rfl
end PlateC2
