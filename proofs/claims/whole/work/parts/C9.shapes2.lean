/-! SHAPES OF THE REFERENCE: all that hangs on a rod -/
section Shapes2
variable {d n : Nat} {dy : Nat → Shp} {a : Hp} {P : Pst} {all : Int} {dp : Nat → Nat} {top : Nat} {Wh : Prop}
/-- what one side leaves -/
def SdR (a : Hp) (all : Int) (dp : Nat → Nat) (g g' : Hp) (m E E' D : Nat) (c T L : Int) (j : Nat) : Prop :=
  lvS a g' ∧ g' 53 41 = (E' : Int) ∧ E' ≤ 8 ∧ (∀ i, i < m → g' 90 i = g 90 i ∧ g' 91 i = g 91 i) ∧ (∀ y, dp y ≤ D → g' 86 y = g 86 y ∧ g' 87 y = g 87 y) ∧ (∀ i, i < E → g' 92 i = g 92 i ∧ g' 93 i = g 93 i) ∧ Fs a all g' E E' c T L j ∧ (E' : Int) = E + neS a c ∧ (0 ≤ c → ∀ y : Nat, (y : Int) < a 53 5 → abv (a 60) c.toNat 60 y = true → OKp a y)
theorem ok_rod (hI : Inv a) (hD : DP (a 53 5) (a 60) dp) {k : Nat} (hN : (k : Int) < a 53 5) (hK : OKp a k) (h0 : 0 ≤ a 66 k → ∀ y : Nat, (y : Int) < a 53 5 → abv (a 60) (a 66 k).toNat 60 y = true → OKp a y) (h1 : 0 ≤ a 67 k → ∀ y : Nat, (y : Int) < a 53 5 → abv (a 60) (a 67 k).toNat 60 y = true → OKp a y) : ∀ y : Nat, (y : Int) < a 53 5 → abv (a 60) k 60 y = true → OKp a y := fun y hy hab => by
  by_cases c : y = k
  · rw [c]; exact hK
  · obtain ⟨x, hx, e, hb⟩ := abv_child hD hI.1.2 (dp y) y rfl hy hab c
    have hp := (hI.2.2.1 x hx).1.2.2.1 (by omega)
    rw [e] at hp
    rcases hp.2.2 with ⟨_, q⟩ | ⟨_, q⟩
    · have q' : a 66 k = (x : Int) := q
      exact h0 (by omega) y hy (by rw [q']; exact hb)
    · have q' : a 67 k = (x : Int) := q
      exact h1 (by omega) y hy (by rw [q']; exact hb)
theorem Rl_any {T L A B : Int} (h1 : 0 < T * A) (h2 : T * A ≤ 1000000000000000000) (h3 : 0 < L * B) (h4 : L * B ≤ 1000000000000000000) : ∃ T' L', Rl T L A B T' L' := by
  have b1 : bm6 (T * A) = T * A := bm6_id ⟨by omega, by omega⟩
  have b2 : bm6 (L * B) = L * B := bm6_id ⟨by omega, by omega⟩
  have hg : 0 < Int.gcd (T * A) (L * B) := Int.gcd_pos_of_ne_zero_left _ (by omega)
  have hle : ((Int.gcd (T * A) (L * B) : Nat) : Int) ≤ T * A := Int.le_of_dvd h1 (Int.gcd_dvd_left ..)
  refine ⟨_, _, ((Int.gcd (T * A) (L * B) : Nat) : Int), by omega, ⟨by omega, by omega⟩, ?_, fun _ _ => by omega, rfl, rfl⟩
  rw [b1, b2]; rfl
theorem ExF_k (h0 : 0 < all) (ha : all ≤ 10000000) (hI : Inv a) {k : Nat} (hN : (k : Int) < a 53 5) (hK : OKp a k) {T L T' L' e : Int} (he : e = 0 ∨ e = 1) (h : ExF a all T L (k : Int)) (r : Rl T L (armI a k (1 - e)) (a 59 k) T' L') : ExF a all T' L' (if e = 0 then a 66 k else a 67 k) := by
  obtain ⟨hlen, har, harR⟩ := ar_b hI hN hK
  have hL := (dvd_okE h0 ha h.1 h.2.1 h.2.2.1 h.2.2.2.1).1
  have hT := h.1
  have hTL := h.2.1
  have hm : L * a 59 k ≤ 10000000 * 1000 := Int.mul_le_mul (by omega) hlen.2 (by omega) (by omega)
  have hL0 : 0 < L * a 59 k := Int.mul_pos (by omega) (by omega)
  have ht : ∀ A : Int, 1 ≤ A → A < a 59 k → 0 < T * A ∧ T * A ≤ 1000000000000000000 := fun A q1 q2 => by
    have h1 : 0 < T * A := Int.mul_pos hT (by omega)
    have h2 : T * A ≤ L * a 59 k := Int.mul_le_mul hTL (by omega) (by omega) (by omega)
    omega
  rcases he with e0 | e0
  · subst e0
    rw [if_pos rfl]
    obtain ⟨T1, L1, r1⟩ := Rl_any (T := T) (L := L) (A := arL a k) (B := a 59 k) (ht _ har.1 har.2).1 (ht _ har.1 har.2).2 hL0 (by omega)
    rw [arI, if_neg (by decide)] at r
    exact (ExF_kid h0 ha hI hN hK h r r1).1
  · subst e0
    rw [if_neg (by decide)]
    obtain ⟨T1, L1, r1⟩ := Rl_any (T := T) (L := L) (A := arR a k) (B := a 59 k) (ht _ harR.1 harR.2).1 (ht _ harR.1 harR.2).2 hL0 (by omega)
    rw [arI, if_pos (by decide)] at r
    exact (ExF_kid h0 ha hI hN hK h r1 r).2
/-- side e of rod k lies on the walk at s -/
def ITm (a g : Hp) (k s : Nat) (e c T L : Int) : Prop := (c < 0 → g 90 s = (k : Int) ∧ g 91 s = e) ∧ (0 ≤ c → g 90 s = c ∧ g 91 s = -1 ∧ Rl T L (armI a k (1 - e)) (a 59 k) (g 86 c.toNat) (g 87 c.toNat))
theorem sh_rod (hn : 100 ≤ n) (hI : Inv a) (hD : DP (a 53 5) (a 60) dp) (h0 : 0 < all) (ha : all ≤ 10000000) (htN : (top : Int) < a 53 5)
    (hx9 : ∀ g' : Hp, lvS a g' → ((∃ y : Nat, (y : Int) < a 53 5 ∧ abv (a 60) top 60 y = true ∧ ¬ OKp a y) ∨ 8 < neS a (top : Int)) → P (some (I_ 9)) n (W0 dy) g')
    (hxs : ∀ g' : Hp, lvS a g' → ¬ Wh → ∀ Q : Pst, (∀ x g'', P (some (I_ x)) n (W0 dy) g'' → Q (some (I_ x)) n (W0 dy) g'') → Runs miX12_shapesOn (d + 1) [.ref 53, I_ (top : Int)] n (W0 dy) g' Q) :
    ∀ (f k m E R j : Nat) (g : Hp), dp k + f = 60 → (k : Int) < a 53 5 → abv (a 60) top 60 k = true → m + f ≤ 190 → lvS a g → g 53 41 = (E : Int) → E ≤ 8 → g 90 m = (k : Int) → g 91 m = -1 → od (g 86 k) (g 87 k) → (Wh → ExF a all (g 86 k) (g 87 k) (k : Int)) → (E : Int) + neS a (k : Int) + R ≤ neS a (top : Int) →
      (∀ (g' : Hp) (E' : Nat), SdR a all dp g g' m E E' (dp k) (k : Int) (g 86 k) (g 87 k) j → V miX12_shapes (d + 2) 35 [(0, .ref 53), (1, I_ (top : Int)), (2, I_ (m : Int))] [] n (W0 dy) g' 0 0 P) →
      V miX12_shapes (d + 2) 35 [(0, .ref 53), (1, I_ (top : Int)), (2, I_ ((m + 1 : Nat) : Int))] [] n (W0 dy) g 0 0 P := by
  have hN6 := hI.1.2
  intro f
  induction f with
  | zero =>
    intro k m E R j g hf hk
    have := (hD k hk).2.1
    omega
  | succ f ih =>
    intro k m E R j g hf hk hab hm hl h41 hE h90 h91 ho hx hR hc
    have em : (((m + 1 : Nat) : Int) + (-1)) = (m : Int) := by omega
    have fr : ∀ (G : Hp), lvS a G → ∀ i q, 57 ≤ i → i ≤ 67 → G i q = a i q := fun G hG i q h1 h2 => hG i q (by omega) (by omega) (by omega) (by omega) (by omega) (by omega) (by omega)
    refine bX12_shapes_35 hn ⟨⟨by omega, by omega⟩, fun q => by omega, fun _ => ?_⟩
    rw [em]
    simp only [Int.toNat_natCast, h90, h91]
    refine ⟨by omega, fun _ => ?_, fun q => by omega⟩
    show Runs miX12_isRod (d + 1) [.ref 53, I_ (k : Int)] n (W0 dy) g (fun v n' S' g' => V miX12_shapes (d + 1 + 1) 192 [(0, .ref 53), (1, I_ (top : Int)), (2, I_ (m : Int)), (3, I_ (k : Int))] (v.toList ++ []) n' S' g' 0 0 P)
    have bad : ¬ OKp a k → P (some (I_ 9)) n (W0 dy) g := fun q => hx9 g hl (Or.inl ⟨k, hk, hab, q⟩)
    have e57 : g 57 k = a 57 k := fr g hl 57 k (by decide) (by decide)
    have e58 : g 58 k = a 58 k := fr g hl 58 k (by decide) (by decide)
    -- it is a rod of a shape
    have rod : OKp a k → V miX12_shapes (d + 2) 218 [(0, .ref 53), (1, I_ (top : Int)), (2, I_ (m : Int)), (3, I_ (k : Int)), (4, I_ 1)] [] n (W0 dy) g 0 0 P := fun hK => by
      obtain ⟨hlen, har, harR⟩ := ar_b hI hk hK
      obtain ⟨_, _, _, ⟨l1, l2, l3⟩, ⟨r1, r2, r3⟩⟩ := (hI.2.2.1 k hk).1
      have hne := neS_eq hI hk
      have hp0 := neS_nn hI (a 66 k)
      have hp1 := neS_nn hI (a 67 k)
      have d0 : 0 ≤ a 66 k → dp (a 66 k).toNat = dp k + 1 := fun q => by
        have := (hD (a 66 k).toNat (by omega)).2.2.2
        rw [(l3 q).1] at this
        exact this (by omega)
      have d1 : 0 ≤ a 67 k → dp (a 67 k).toNat = dp k + 1 := fun q => by
        have := (hD (a 67 k).toNat (by omega)).2.2.2
        rw [(r3 q).1] at this
        exact this (by omega)
      have ab2 : ∀ c : Nat, (c : Int) < a 53 5 → a 60 c = (k : Int) → abv (a 60) top 60 c = true := fun c hcN he => by
        rw [abv_eq hD hN6 hcN]
        split
        · rfl
        · rw [he, if_neg (by omega)]; exact hab
      have ne01 : 0 ≤ a 66 k → 0 ≤ a 67 k → (a 66 k).toNat ≠ (a 67 k).toNat := fun q0 q1 z => by
        have z1 := (l3 q0).2
        have z2 := (r3 q1).2
        rw [z] at z1
        omega
      -- a side that lies on the walk is gone through
      have side : ∀ (e c : Int) (s E R : Nat) (G : Hp), (e = 0 ∨ e = 1) → c = (if e = 0 then a 66 k else a 67 k) → s + f ≤ 190 → lvS a G → G 53 41 = (E : Int) → E ≤ 8 → G 86 k = g 86 k → G 87 k = g 87 k → ITm a G k s e c (g 86 k) (g 87 k) → (E : Int) + neS a c + R ≤ neS a (top : Int) →
          (∀ (T' L' : Int) (G' : Hp) (E' : Nat), Rl (g 86 k) (g 87 k) (armI a k (1 - e)) (a 59 k) T' L' → SdR a all dp G G' s E E' (dp k + 1) c T' L' (j + 1) → V miX12_shapes (d + 2) 35 [(0, .ref 53), (1, I_ (top : Int)), (2, I_ (s : Int))] [] n (W0 dy) G' 0 0 P) →
          V miX12_shapes (d + 2) 35 [(0, .ref 53), (1, I_ (top : Int)), (2, I_ ((s + 1 : Nat) : Int))] [] n (W0 dy) G 0 0 P := by
        intro e c s E R G he hce hs hG h41 hE e86 e87 hit hR hgo
        by_cases c0 : c < 0
        · obtain ⟨i1, i2⟩ := hit.1 c0
          have hn1 : neS a c = 1 := if_pos c0
          by_cases h8 : E = 8
          · refine bX12_shapes_35 hn ⟨⟨by omega, by omega⟩, fun q => by omega, fun _ => ?_⟩
            rw [show (((s + 1 : Nat) : Int) + (-1)) = (s : Int) by omega]
            simp only [Int.toNat_natCast, i2]
            exact ⟨by omega, fun q => by omega, fun _ => ⟨fun q => absurd (by rw [h41, h8]; rfl) q, fun _ => hx9 G hG (Or.inr (by omega))⟩⟩
          · refine sh_end hn hI hk hK he hG h41 (by omega) (by omega) i1 i2 (by rw [e86, e87]; exact ho) fun T' L' hr G' g1 g2 g3 g4 g5 g6 => ?_
            rw [e86, e87] at hr
            refine hgo T' L' G' (E + 1) hr ⟨g1, g2, by omega, fun i _ => ⟨g3 90 i (by omega), g3 91 i (by omega)⟩, fun y _ => ⟨g3 86 y (by omega), g3 87 y (by omega)⟩, g4, Fs_end h0 ha c0 g5 g6, by omega, fun q => by omega⟩
        · obtain ⟨i1, i2, i3⟩ := hit.2 (by omega)
          obtain ⟨cc, rfl⟩ := Int.eq_ofNat_of_zero_le (by omega : 0 ≤ c)
          have hcN : (cc : Int) < a 53 5 := by rw [hce]; split <;> omega
          have hon : a 60 cc = (k : Int) := by
            rcases he with q | q
            · subst q
              rw [if_pos rfl] at hce
              have := (l3 (by omega)).1
              rw [← hce] at this; exact this
            · subst q
              rw [if_neg (by decide)] at hce
              have := (r3 (by omega)).1
              rw [← hce] at this; exact this
          have hdc : dp cc = dp k + 1 := by
            have := (hD cc hcN).2.2.2
            rw [hon] at this
            exact this (by omega)
          refine ih cc s E R (j + 1) G (by omega) hcN (ab2 cc hcN hon) hs hG h41 hE i1 i2 (Rl_od i3) (fun w => ?_) hR fun G' E' hS => hgo _ _ G' E' i3 (by rw [← hdc]; exact hS)
          have := ExF_k h0 ha hI hk hK he (hx w) i3
          rw [← hce] at this; exact this
      -- both sides lie on the walk: the left one first
      have walk : ∀ g2 : Hp, lvS a g2 → g2 53 41 = (E : Int) → (∀ i, i < m → g2 90 i = g 90 i ∧ g2 91 i = g 91 i) → (∀ y, dp y ≤ dp k → g2 86 y = g 86 y ∧ g2 87 y = g 87 y) → (∀ i, g2 92 i = g 92 i ∧ g2 93 i = g 93 i) → ITm a g2 k m 1 (a 67 k) (g 86 k) (g 87 k) → ITm a g2 k (m + 1) 0 (a 66 k) (g 86 k) (g 87 k) → V miX12_shapes (d + 2) 35 [(0, .ref 53), (1, I_ (top : Int)), (2, I_ ((m + 1 + 1 : Nat) : Int))] [] n (W0 dy) g2 0 0 P := by
        intro g2 k1 k2 k3 k4 k5 k6 k7
        refine side 0 (a 66 k) (m + 1) E (R + (neS a (a 67 k)).toNat) g2 (Or.inl rfl) (if_pos rfl).symm (by omega) k1 k2 hE (k4 k (Nat.le_refl _)).1 (k4 k (Nat.le_refl _)).2 k7 (by omega) fun T0 L0 G1 M r0 hS1 => ?_
        obtain ⟨s1, s2, s3, s4, s5, s6, s7, s8, s9⟩ := hS1
        have q86 := s5 k (by omega)
        refine side 1 (a 67 k) m M R G1 (Or.inr rfl) (if_neg (by decide)).symm (by omega) s1 s2 s3 (q86.1.trans (k4 k (Nat.le_refl _)).1) (q86.2.trans (k4 k (Nat.le_refl _)).2) ⟨fun q => ?_, fun q => ?_⟩ (by omega) fun T1 L1 G2 E' r1' hS2 => ?_
        · obtain ⟨z1, z2⟩ := k6.1 q
          exact ⟨(s4 m (by omega)).1.trans z1, (s4 m (by omega)).2.trans z2⟩
        · obtain ⟨z1, z2, z3⟩ := k6.2 q
          refine ⟨(s4 m (by omega)).1.trans z1, (s4 m (by omega)).2.trans z2, ?_⟩
          have := s5 (a 67 k).toNat (by rw [d1 q]; omega)
          rw [this.1, this.2]; exact z3
        · obtain ⟨t1, t2, t3, t4, t5, t6, t7, t8, t9⟩ := hS2
          refine hc G2 E' ⟨t1, t2, t3, fun i hi => ⟨((t4 i hi).1.trans (s4 i (by omega)).1).trans (k3 i hi).1, ((t4 i hi).2.trans (s4 i (by omega)).2).trans (k3 i hi).2⟩, fun y hy => ⟨((t5 y (by omega)).1.trans (s5 y (by omega)).1).trans (k4 y hy).1, ((t5 y (by omega)).2.trans (s5 y (by omega)).2).trans (k4 y hy).2⟩, fun i hi => ⟨((t6 i (by omega)).1.trans (s6 i hi).1).trans (k5 i).1, ((t6 i (by omega)).2.trans (s6 i hi).2).trans (k5 i).2⟩, ?_, by omega, fun _ => ok_rod hI hD hk hK s9 t9⟩
          rw [arI, if_neg (by decide)] at r0
          rw [arI, if_pos (by decide)] at r1'
          exact Fs_rod (c := (k : Int)) h0 ha hI (by omega) hk hlen har r0 r1' (Fs_cg s7 t6) t7
      -- the two are laid there
      have lay0 : ∀ g1 : Hp, lvS a g1 → g1 53 41 = (E : Int) → (∀ i, i < m → g1 90 i = g 90 i ∧ g1 91 i = g 91 i) → (∀ y, dp y ≤ dp k → g1 86 y = g 86 y ∧ g1 87 y = g 87 y) → (∀ i, g1 92 i = g 92 i ∧ g1 93 i = g 93 i) → ITm a g1 k m 1 (a 67 k) (g 86 k) (g 87 k) → V miX12_shapes (d + 2) 218 [(0, .ref 53), (1, I_ (top : Int)), (2, I_ ((m + 1 : Nat) : Int)), (3, I_ (k : Int)), (4, I_ 0)] [] n (W0 dy) g1 0 0 P := by
        intro g1 k1 k2 k3 k4 k5 k6
        have q86 := k4 k (Nat.le_refl _)
        refine sh_push (e := 0) (c := a 66 k) hn hI hk hK (Or.inl rfl) k1 (by omega) (if_pos rfl).symm l2 (by rw [q86.1, q86.2]; exact ho) (fun c0 => ?_) (fun c0 T' L' hr g2 w1 w2 w3 w4 w5 w6 w7 w8 w9 => ⟨fun hs => ?_, ?_⟩)
        · refine bX12_shapes_218 hn ⟨by decide, fun _ => ?_, fun q => absurd q (by decide)⟩
          refine walk _ ((k1.up (by omega)).up (by omega)) (by rw [up2_i (by decide), up2_i (by decide)]; exact k2) (fun i hi => ?_) (fun y hy => ?_) (fun i => ?_) ⟨fun q => ?_, fun q => ?_⟩ ⟨fun _ => ?_, fun q => by omega⟩
          · exact ⟨by rw [up2_i (by decide), up2_k, if_neg (by omega)]; exact (k3 i hi).1, by rw [up2_k, if_neg (by omega), up2_i (by decide)]; exact (k3 i hi).2⟩
          · rw [up2_i (by decide), up2_i (by decide), up2_i (by decide), up2_i (by decide)]; exact k4 y hy
          · rw [up2_i (by decide), up2_i (by decide), up2_i (by decide), up2_i (by decide)]; exact k5 i
          · obtain ⟨z1, z2⟩ := k6.1 q
            exact ⟨by rw [up2_i (by decide), up2_k, if_neg (by omega)]; exact z1, by rw [up2_k, if_neg (by omega), up2_i (by decide)]; exact z2⟩
          · obtain ⟨z1, z2, z3⟩ := k6.2 q
            refine ⟨by rw [up2_i (by decide), up2_k, if_neg (by omega)]; exact z1, by rw [up2_k, if_neg (by omega), up2_i (by decide)]; exact z2, ?_⟩
            rw [up2_i (by decide), up2_i (by decide), up2_i (by decide), up2_i (by decide)]; exact z3
          · exact ⟨by rw [up2_i (by decide), up2_k, if_pos rfl], by rw [up2_k, if_pos rfl]⟩
        · rw [q86.1, q86.2] at hr
          refine hxs g2 w1 fun w => ?_
          have := ExF_k h0 ha hI hk hK (e := 0) (Or.inl rfl) (hx w) hr
          exact ExF_big h0 ha this hs
        · rw [q86.1, q86.2] at hr
          refine bX12_shapes_218 hn ⟨by decide, fun _ => ?_, fun q => absurd q (by decide)⟩
          refine walk g2 w1 (w2.trans k2) (fun i hi => ⟨(w3 i (by omega)).1.trans (k3 i hi).1, (w3 i (by omega)).2.trans (k3 i hi).2⟩) (fun y hy => ?_) (fun i => ⟨(w9 i).1.trans (k5 i).1, (w9 i).2.trans (k5 i).2⟩) ⟨fun q => ?_, fun q => ?_⟩ ⟨fun q => by omega, fun _ => ⟨w4, w5, by rw [w7, w8]; exact hr⟩⟩
          · have := w6 y (fun z => by rw [z, d0 c0] at hy; omega)
            exact ⟨this.1.trans (k4 y hy).1, this.2.trans (k4 y hy).2⟩
          · obtain ⟨z1, z2⟩ := k6.1 q
            exact ⟨(w3 m (by omega)).1.trans z1, (w3 m (by omega)).2.trans z2⟩
          · obtain ⟨z1, z2, z3⟩ := k6.2 q
            refine ⟨(w3 m (by omega)).1.trans z1, (w3 m (by omega)).2.trans z2, ?_⟩
            have := w6 (a 67 k).toNat (fun z => ne01 c0 q z.symm)
            rw [this.1, this.2]; exact z3
      refine sh_push (e := 1) (c := a 67 k) hn hI hk hK (Or.inr rfl) hl (by omega) (if_neg (by decide)).symm r2 ho (fun c0 => ?_) (fun c0 T' L' hr g2 w1 w2 w3 w4 w5 w6 w7 w8 w9 => ⟨fun hs => ?_, ?_⟩)
      · refine lay0 _ ((hl.up (by omega)).up (by omega)) (by rw [up2_i (by decide), up2_i (by decide)]; exact h41) (fun i hi => ?_) (fun y hy => ?_) (fun i => ?_) ⟨fun _ => ?_, fun q => by omega⟩
        · exact ⟨by rw [up2_i (by decide), up2_k, if_neg (by omega)], by rw [up2_k, if_neg (by omega), up2_i (by decide)]⟩
        · rw [up2_i (by decide), up2_i (by decide), up2_i (by decide), up2_i (by decide)]; exact ⟨rfl, rfl⟩
        · rw [up2_i (by decide), up2_i (by decide), up2_i (by decide), up2_i (by decide)]; exact ⟨rfl, rfl⟩
        · exact ⟨by rw [up2_i (by decide), up2_k, if_pos rfl], by rw [up2_k, if_pos rfl]⟩
      · refine hxs g2 w1 fun w => ?_
        have := ExF_k h0 ha hI hk hK (e := 1) (Or.inr rfl) (hx w) hr
        exact ExF_big h0 ha this hs
      · refine lay0 g2 w1 (w2.trans h41) (fun i hi => w3 i (by omega)) (fun y hy => w6 y (fun z => by rw [z, d1 c0] at hy; omega)) w9 ⟨fun q => by omega, fun _ => ⟨w4, w5, by rw [w7, w8]; exact hr⟩⟩
    have isr : (a 57 k = 2 ∨ a 57 k = 3) → V miX12_shapes (d + 1 + 1) 192 [(0, .ref 53), (1, I_ (top : Int)), (2, I_ (m : Int)), (3, I_ (k : Int))] [I_ 1] n (W0 dy) g 0 0 P := fun hr => by
      refine bX12_shapes_192 hn ⟨by decide, fun q => absurd q (by decide), fun _ => ⟨⟨by omega, by omega⟩, ?_⟩⟩
      show (g 58 k ≠ 0 → _) ∧ (g 58 k = 0 → _)
      rw [e58]
      refine ⟨fun q => bad fun z => q z.2.1, fun q => ?_⟩
      refine spX12_isWhole hn hI hk hr (fr g hl 59 k (by decide) (by decide)) (fr g hl 64 k (by decide) (by decide)) (fr g hl 65 k (by decide) (by decide)) ?_
      have wb := whI_b (a := a) k
      refine bX12_shapes_209 hn ⟨⟨by omega, by omega⟩, fun z => ?_, fun z => bad fun y => ?_⟩
      · refine rod ⟨hr, q, ?_⟩
        unfold whI at z
        split at z
        · next t => exact t
        · exact absurd rfl z
      · unfold whI at z
        rw [if_pos y.2.2] at z
        exact absurd z (by decide)
    refine wX12_isRod hn ⟨⟨by omega, by omega⟩, ?_⟩
    show (g 57 k = 2 → _) ∧ (g 57 k ≠ 2 → (g 57 k ≠ 3 → _) ∧ (g 57 k = 3 → _))
    rw [e57]
    refine ⟨fun q => isr (Or.inl q), fun q => ⟨fun q2 => ?_, fun q2 => isr (Or.inr q2)⟩⟩
    exact bX12_shapes_192 hn ⟨by decide, fun _ => bad fun z => by have := z.1; omega, fun z => absurd rfl z⟩
end Shapes2
