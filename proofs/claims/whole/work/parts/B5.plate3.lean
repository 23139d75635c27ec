/-! PLATE: sums, the invariant; the class's ring as it is drawn -/
theorem plI_0 {a : Hp} {x1 x2 : Int} (h : plI a x1 x2 = 0) : (0 ≤ x1 ∧ x1 < 6) ∧ 0 ≤ a 55 x1.toNat ∧ (3 ≤ x2 ∧ x2 ≤ 8) ∧ 2 * x2 ≤ a 55 x1.toNat ∧ okN a x1.toNat x2.toNat ∧ RG x2.toNat (cX a x1.toNat) (cY a x1.toNat) ∧ a 53 5 ≠ 60 := by
  unfold plI at h
  by_cases c1 : x1 < 0 ∨ 6 ≤ x1
  · rw [if_pos c1] at h; omega
  · rw [if_neg c1] at h
    by_cases c2 : a 55 x1.toNat < 0
    · rw [if_pos c2] at h; omega
    · rw [if_neg c2] at h
      by_cases c3 : x2 < 3 ∨ 8 < x2
      · rw [if_pos c3] at h; omega
      · rw [if_neg c3] at h
        by_cases c4 : a 55 x1.toNat < 2 * x2
        · rw [if_pos c4] at h; omega
        · rw [if_neg c4] at h
          by_cases c5 : okN a x1.toNat x2.toNat
          · rw [if_neg (fun w => w c5)] at h
            by_cases c6 : RG x2.toNat (cX a x1.toNat) (cY a x1.toNat)
            · rw [if_neg (fun w => w c6)] at h
              by_cases c7 : a 53 5 = 60
              · rw [if_pos c7] at h; omega
              · exact ⟨by omega, by omega, by omega, by omega, c5, c6, c7⟩
            · rw [if_pos c6] at h; omega
          · rw [if_pos c5] at h; omega
theorem nx_mod {m j : Nat} (hj : j < m) : (j + 1) % m = nx_ m j := by
  unfold nx_
  by_cases c : j + 1 < m
  · rw [if_pos c, Nat.mod_eq_of_lt c]
  · rw [if_neg c, show j + 1 = m by omega, Nat.mod_self]
theorem twR_is {c X Y x y : Nat → Int} {N m : Nat} (hc : c N = (m : Int)) (hX : ∀ j, j < m → X (8 * N + j) = x j) (hY : ∀ j, j < m → Y (8 * N + j) = y j) : ∀ k, k ≤ m → twR c X Y N k = isum (crsS x y m) k
  | 0, _ => rfl
  | k + 1, hk => by
    have hk' : k < m := by omega
    have l1 := nx_lt hk'
    unfold twR isum crsS
    rw [twR_is hc hX hY k (by omega), show (c N).toNat = m by omega, nx_mod hk', hX k hk', hX _ l1, hY k hk', hY _ l1]
    rfl
theorem smR_is {c X Y Z x y z : Nat → Int} {N m : Nat} (hc : c N = (m : Int)) (hX : ∀ j, j < m → X (8 * N + j) = x j) (hY : ∀ j, j < m → Y (8 * N + j) = y j) (hZ : ∀ j, j < m → Z (8 * N + j) = z j) : ∀ k, k ≤ m → smR c X Y Z N k = isum (fun i => (z i + z (nx_ m i)) * crsS x y m i) k
  | 0, _ => rfl
  | k + 1, hk => by
    have hk' : k < m := by omega
    have l1 := nx_lt hk'
    unfold smR isum crsS
    rw [smR_is hc hX hY hZ k (by omega), show (c N).toNat = m by omega, nx_mod hk', hX k hk', hX _ l1, hY k hk', hY _ l1, hZ k hk', hZ _ l1, Int.mul_comm (x k * y (nx_ m k) - x (nx_ m k) * y k)]
    rfl
/-- the plate's numbers, as the class makes them -/
theorem mdl_is {A : Hp} {x y : Nat → Int} {N m w : Nat} (hc : A 68 N = (m : Int)) (hX : ∀ j, j < m → A 69 (8 * N + j) = x j) (hY : ∀ j, j < m → A 70 (8 * N + j) = y j) (hw : w < 4) {T S : Int} (hT : isum (crsS x y m) m = T) (hS : isum (fun i => ((if w < 2 then x else y) i + (if w < 2 then x else y) (nx_ m i)) * crsS x y m i) m = S) : mdl A N w = (if w % 2 = 0 then (if 0 ≤ T then S else -S) else 3 * ab T).tdiv ((Int.gcd (if 0 ≤ T then S else -S) (3 * ab T) : Nat) : Int) := by
  have e1 : twR (A 68) (A 69) (A 70) N m = T := by rw [twR_is hc hX hY m (Nat.le_refl m), hT]
  have e2 : smR (A 68) (A 69) (A 70) (if w < 2 then A 69 else A 70) N m = S := by
    rw [smR_is (z := if w < 2 then x else y) hc hX hY (fun j hj => by split <;> first | exact hX j hj | exact hY j hj) m (Nat.le_refl m), hS]
  unfold mdl mdR
  rw [show (A 68 N).toNat = m by omega, e1, e2]
  unfold ab
  by_cases c : 0 ≤ T
  · rw [if_neg (show ¬ 3 * T < 0 by omega), if_pos c, if_pos c, Int.mul_one]
    split <;> rfl
  · rw [if_pos (show 3 * T < 0 by omega), if_neg c, if_neg c]
    have g1 : Int.gcd (-S) (3 * -T) = Int.gcd S (3 * T) := by
      rw [show 3 * -T = -(3 * T) by omega, Int.gcd_neg, Int.neg_gcd]
    rw [g1, show ((Int.gcd S (3 * T) : Nat) : Int) * -1 = -((Int.gcd S (3 * T) : Nat) : Int) by omega, Int.tdiv_neg, Int.tdiv_neg]
    split
    · rw [Int.neg_tdiv]
    · rw [show 3 * -T = -(3 * T) by omega, Int.neg_tdiv]
theorem plS_at {a : Hp} {t m N : Nat} (eN : a 53 5 = (N : Int)) : (∀ i q, i ≠ 69 → i ≠ 70 → i ≠ 68 → plS a t m i q = nwp a 4 (ab (isum (crsS (cX a t) (cY a t) m) m)) i q) ∧ (∀ q, plS a t m 68 q = if q = N then (m : Int) else a 68 q) ∧ (∀ q, plS a t m 69 q = if 8 * N ≤ q ∧ q < 8 * N + m then cX a t (q - 8 * N) else a 69 q) ∧ (∀ q, plS a t m 70 q = if 8 * N ≤ q ∧ q < 8 * N + m then cY a t (q - 8 * N) else a 70 q) := by
  have eT : (a 53 5).toNat = N := by omega
  obtain ⟨-, w2, -⟩ := nwp_at (kd := 4) (w := ab (isum (crsS (cX a t) (cY a t) m) m)) eN
  have same : ∀ i q, (i = 68 ∨ i = 69 ∨ i = 70) → nwp a 4 (ab (isum (crsS (cX a t) (cY a t) m) m)) i q = a i q := fun i q hi => by
    rcases w2 i q with z | z | z
    · omega
    · omega
    · exact z
  unfold plS
  rw [eT]
  refine ⟨fun i q i1 i2 i3 => ?_, fun q => ?_, fun q => ?_, fun q => ?_⟩
  · rw [if_neg fun w => i1 w.1, if_neg fun w => i2 w.1, up2_i i3]
  · rw [if_neg fun w => absurd w.1 (by decide), if_neg fun w => absurd w.1 (by decide), up2_k, same 68 q (Or.inl rfl)]
  · by_cases c : 8 * N ≤ q ∧ q < 8 * N + m
    · rw [if_pos ⟨rfl, c⟩, if_pos c]
    · rw [if_neg fun w => c w.2, if_neg fun w => absurd w.1 (by decide), if_neg c, up2_i (by omega), same 69 q (by omega)]
  · rw [if_neg fun w => absurd w.1 (by decide)]
    by_cases c : 8 * N ≤ q ∧ q < 8 * N + m
    · rw [if_pos ⟨rfl, c⟩, if_pos c]
    · rw [if_neg fun w => c w.2, if_neg c, up2_i (by omega), same 70 q (by omega)]
theorem inv_plate {a : Hp} (hI : Inv a) (x1 x2 : Int) : Inv (opPlate a x1 x2).2 := by
  unfold opPlate
  by_cases c : plI a x1 x2 ≠ 0
  · rw [if_pos c]; exact hI.st _
  · rw [if_neg c]
    obtain ⟨p1, p2, p3, p4, p5, p6, p7⟩ := plI_0 (show plI a x1 x2 = 0 by omega)
    obtain ⟨t, rfl⟩ := exN p1.1
    obtain ⟨m, rfl⟩ := exN (show 0 ≤ x2 by omega)
    have p5 : okN a t m := p5
    have p6 : RG m (cX a t) (cY a t) := p6
    obtain ⟨N, eN⟩ := exN hI.1.1
    have hN := hI.1.2
    obtain ⟨s1, s2, s3, s4⟩ := plS_at (t := t) (m := m) eN
    obtain ⟨w1, w2, w3, w4, w5, w6, w7, w8, w9⟩ := nwp_at (kd := 4) (w := ab (isum (crsS (cX a t) (cY a t) m) m)) eN
    have cb := okN_c p5
    have ar : isum (crsS (cX a t) (cY a t) m) m ≠ 0 := ring_area (by omega) p6 cb
    have bd := isum_b (f := crsS (cX a t) (cY a t) m) (B := 2000000) (n := m) fun i hi => crs_bd cb hi
    have tw : twR (plS a t m 68) (plS a t m 69) (plS a t m 70) N m = isum (crsS (cX a t) (cY a t) m) m := twR_is (by rw [s2, if_pos rfl]) (fun j hj => by rw [s3, if_pos (by omega), show 8 * N + j - 8 * N = j by omega]) (fun j hj => by rw [s4, if_pos (by omega), show 8 * N + j - 8 * N = j by omega]) m (Nat.le_refl m)
    show Inv (plS a t m)
    generalize hA : plS a t m = A' at *
    have same : ∀ i q, ¬ (i = 53 ∧ q = 5) → ¬ (q = N ∧ (i = 57 ∨ i = 63 ∨ i = 60 ∨ i = 61 ∨ i = 62 ∨ i = 66 ∨ i = 67)) → nwp a 4 (ab (isum (crsS (cX a t) (cY a t) m) m)) i q = a i q := fun i q z1 z2 => by
      rcases w2 i q with z | z | z
      · exact absurd z z1
      · exact absurd z z2
      · exact z
    refine hI.new (N := N) eN (by omega) ((s1 53 5 (by omega) (by omega) (by omega)).trans w1) ⟨?_, ?_, fun i q hi => ?_⟩ (fun i k i1 i2 hk => ?_) (fun i q hi hq => ?_) ⟨?_, ?_, ?_, ?_, ?_⟩ ?_
    · rw [s1 53 26 (by omega) (by omega) (by omega)]; exact same 53 26 (by omega) (by omega)
    · rw [s1 53 29 (by omega) (by omega) (by omega)]; exact same 53 29 (by omega) (by omega)
    · rw [s1 i q (by omega) (by omega) (by omega)]; exact same i q (by omega) (by omega)
    · by_cases e : i = 68
      · rw [e, s2, if_neg (by omega)]
      · rw [s1 i k (by omega) (by omega) e]; exact same i k (by omega) (by omega)
    · rcases hi with rfl | rfl
      · rw [s3, if_neg (by omega)]
      · rw [s4, if_neg (by omega)]
    · rw [s1 60 N (by omega) (by omega) (by omega)]; exact w5
    · rw [s1 61 N (by omega) (by omega) (by omega)]; exact w6
    · rw [s1 62 N (by omega) (by omega) (by omega)]; exact w7
    · rw [s1 66 N (by omega) (by omega) (by omega)]; exact w8
    · rw [s1 67 N (by omega) (by omega) (by omega)]; exact w9
    · have e68 : A' 68 N = (m : Int) := by rw [s2, if_pos rfl]
      refine Or.inr (Or.inr ⟨?_, ?_, ?_, ?_, ?_, fun j hj => ?_, ?_⟩)
      · rw [s1 57 N (by omega) (by omega) (by omega)]; exact w3
      · rw [s1 63 N (by omega) (by omega) (by omega), w4]
        unfold ab; split <;> omega
      · rw [s1 66 N (by omega) (by omega) (by omega)]; exact w8
      · rw [s1 67 N (by omega) (by omega) (by omega)]; exact w9
      · rw [e68]; omega
      · rw [e68] at hj
        rw [s3, s4, if_pos (by omega), if_pos (by omega), show 8 * N + j - 8 * N = j by omega]
        exact cb j (by omega)
      · rw [e68, show (((m : Nat) : Int)).toNat = m from rfl, tw]; exact ar
section PlateC
variable {d n m : Nat} {dy : Nat → Shp} {g a G : Hp} {P : Pst}
theorem cs_cross {i : Nat} (hn : 100 ≤ n) (hR : RC g m) (hi : i < m) (h : P (some (I_ (crsS (g 7) (g 8) m i))) n (W0 dy) g) : Runs miX5_crossAfter (d + 1) [.ref 6, I_ (i : Int)] n (W0 dy) g P := by
  have l1 := nx_lt hi
  have hm := hR.2.1
  exact wX5_crossAfter hn ⟨⟨by omega, by omega⟩, cs_next hn hR hi (bX5_crossAfter_15 hn ⟨⟨by omega, by omega⟩, cs_next hn hR hi (bX5_crossAfter_26 hn ⟨⟨by omega, by omega⟩, ⟨by omega, by omega⟩, h⟩)⟩)⟩
theorem cs_signed (hn : 100 ≤ n) (hR : RC g m) (h : P (some (I_ (isum (crsS (g 7) (g 8) m) m))) n (W0 dy) g) : Runs miX5_signedTwiceArea (d + 2) [.ref 6] n (W0 dy) g P := by
  have e6 := hR.1
  have hm := hR.2.1
  have key : ∀ (f k : Nat), k + f = m → V miX5_signedTwiceArea (d + 2) 4 [(0, .ref 6), (1, I_ (isum (crsS (g 7) (g 8) m) k)), (2, I_ (k : Int))] [] n (W0 dy) g 0 0 P := by
    intro f
    induction f with
    | zero =>
      intro k hk
      rw [show k = m by omega]
      exact bX5_signedTwiceArea_4 hn ⟨⟨by omega, by omega⟩, fun _ => h, fun q => by omega⟩
    | succ f ih =>
      intro k hk
      exact bX5_signedTwiceArea_4 hn ⟨⟨by omega, by omega⟩, fun q => by omega, fun _ => cs_cross hn hR (by omega) (bX5_signedTwiceArea_18 hn (ih (k + 1) (by omega)))⟩
  exact wX5_signedTwiceArea hn (key m 0 (by omega))
theorem cs_twice (hn : 100 ≤ n) (hR : RC g m) (h : P (some (I_ (ab (isum (crsS (g 7) (g 8) m) m)))) n (W0 dy) g) : Runs miX5_twiceArea (d + 3) [.ref 6] n (W0 dy) g P := by
  have hm := hR.2.1
  have bd := isum_b (f := crsS (g 7) (g 8) m) (B := 2000000) (n := m) fun i hi => crs_bd hR.2.2 hi
  exact wX5_twiceArea hn (cs_signed hn hR (bX5_twiceArea_4 hn ⟨⟨by omega, by omega⟩, h⟩))
theorem cs_midSum {x1 : Int} (hn : 100 ≤ n) (hR : RC g m) (hx : i3 x1) {z : Nat → Int} (hz : z = if x1 = 0 then g 8 else g 7) (h : P (some (L_ (if 0 ≤ isum (crsS (g 7) (g 8) m) m then isum (fun i => (z i + z (nx_ m i)) * crsS (g 7) (g 8) m i) m else -isum (fun i => (z i + z (nx_ m i)) * crsS (g 7) (g 8) m i) m))) n (W0 dy) g) : Runs miX5_middleSum (d + 3) [.ref 6, I_ x1] n (W0 dy) g P := by
  have e6 := hR.1
  have hm := hR.2.1
  have hb := hR.2.2
  have bd := isum_b (f := crsS (g 7) (g 8) m) (B := 2000000) (n := m) fun i hi => crs_bd hR.2.2 hi
  have key : ∀ (f k : Nat), k + f = m → V miX5_middleSum (d + 3) 5 [(0, .ref 6), (1, I_ x1), (2, L_ (isum (fun i => (z i + z (nx_ m i)) * crsS (g 7) (g 8) m i) k)), (4, I_ (k : Int))] [] n (W0 dy) g 0 0 P := by
    intro f
    induction f with
    | zero =>
      intro k hk
      rw [show k = m by omega]
      refine bX5_middleSum_5 hn ⟨⟨by omega, by omega⟩, fun _ => cs_signed hn hR (bX5_middleSum_85 hn ⟨⟨by omega, by omega⟩, fun q => ?_, fun q => ?_⟩), fun q => by omega⟩
      · rw [if_pos q] at h; exact h
      · rw [if_neg (by omega)] at h; exact h
    | succ f ih =>
      intro k hk
      have lk : k < m := by omega
      have l1 := nx_lt lk
      have b1 := hb k lk
      have b2 := hb _ l1
      have cb := crs_bd (x := g 7) (y := g 8) hb lk
      have nx := ih (k + 1) (by omega)
      refine bX5_middleSum_5 hn ⟨⟨by omega, by omega⟩, fun q => by omega, fun _ => ⟨hx, fun q => ⟨⟨by omega, by omega⟩, cs_next hn hR lk ?_⟩, fun q => ⟨⟨by omega, by omega⟩, cs_next hn hR lk ?_⟩⟩⟩
      · rw [if_pos q] at hz
        subst hz
        refine bX5_middleSum_57 hn ⟨⟨by omega, by omega⟩, ⟨show -2147483648 ≤ g 8 k + g 8 (nx_ m k) by omega, show g 8 k + g 8 (nx_ m k) ≤ 2147483647 by omega⟩, cs_cross hn hR lk (bX5_middleSum_71 hn ⟨⟨by omega, by omega⟩, nx⟩)⟩
      · rw [if_neg q] at hz
        subst hz
        refine bX5_middleSum_35 hn ⟨⟨by omega, by omega⟩, ⟨show -2147483648 ≤ g 7 k + g 7 (nx_ m k) by omega, show g 7 k + g 7 (nx_ m k) ≤ 2147483647 by omega⟩, cs_cross hn hR lk (bX5_middleSum_71 hn ⟨⟨by omega, by omega⟩, nx⟩)⟩
  exact wX5_middleSum hn (key m 0 (by omega))
end PlateC
