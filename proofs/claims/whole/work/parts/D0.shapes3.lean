/-! SHAPES OF THE REFERENCE: the answer -/
def lvT (a g : Hp) : Prop := ∀ i q, i ≠ 86 → i ≠ 87 → i ≠ 90 → i ≠ 91 → i ≠ 92 → i ≠ 93 → ¬ (i = 53 ∧ (q = 41 ∨ q = 51)) → g i q = a i q
def ShO (a : Hp) (top : Nat) : Prop := (∀ y : Nat, (y : Int) < a 53 5 → abv (a 60) top 60 y = true → OKp a y) ∧ neS a (top : Int) ≤ 8
section Shapes3
variable {d n : Nat} {dy : Nat → Shp} {a g : Hp} {P : Pst} {all : Int} {dp : Nat → Nat} {top : Nat}
theorem lvS.t (h : lvS a g) : lvT a g := fun i q h1 h2 h3 h4 h5 h6 h7 => h i q h1 h2 h3 h4 h5 h6 (by omega)
theorem ne_nr (hI : Inv a) (hD : DP (a 53 5) (a 60) dp) : ∀ (f k : Nat), dp k + f = 60 → (k : Int) < a 53 5 → neS a (k : Int) = nrS a (k : Int) + 1 := by
  have hN6 := hI.1.2
  intro f
  induction f with
  | zero =>
    intro k hf hk
    have := (hD k hk).2.1
    omega
  | succ f ih =>
    intro k hf hk
    obtain ⟨_, _, _, ⟨l1, l2, l3⟩, ⟨r1, r2, r3⟩⟩ := (hI.2.2.1 k hk).1
    have s : ∀ c : Int, (0 ≤ c → c < a 53 5 ∧ a 60 c.toNat = (k : Int)) → neS a c = nrS a c + 1 := fun c hc => by
      by_cases q : c < 0
      · rw [nrS_neg q]; exact if_pos q
      · obtain ⟨cc, rfl⟩ := Int.eq_ofNat_of_zero_le (by omega : 0 ≤ c)
        have h1 := hc (by omega)
        have h2 : a 60 cc = (k : Int) := h1.2
        have h3 := (hD cc h1.1).2.2.2
        rw [h2] at h3
        have h4 : dp cc = dp k + 1 := h3 (by omega)
        exact ih cc (by omega) h1.1
    rw [neS_eq hI hk, nrS_eq hI (by omega) hk]
    have e0 := s (a 66 k) (fun q => ⟨l2, (l3 q).1⟩)
    have e1 := s (a 67 k) (fun q => ⟨r2, (r3 q).1⟩)
    show neS a (a 66 k) + neS a (a 67 k) = 1 + nrS a (a 66 k) + nrS a (a 67 k) + 1
    omega
theorem nr_top (hI : Inv a) (hk : (top : Int) < a 53 5) : neS a (top : Int) = nrS a (top : Int) + 1 ∧ 1 ≤ nrS a (top : Int) := by
  obtain ⟨dp, hD⟩ := hI.dp
  have h1 := (hD top hk).2.1
  have := hI.1.2
  refine ⟨ne_nr hI hD (60 - dp top) top (by omega) hk, ?_⟩
  rw [nrS_eq hI (by omega) hk]
  have := nrS_nn hI (a 66 (top : Int).toNat)
  have := nrS_nn hI (a 67 (top : Int).toNat)
  omega
theorem rs_shapesOn (hn : 100 ≤ n) (hI : Inv a) (hk : (top : Int) < a 53 5) (hl : lvT a g)
    (h0 : ∀ g' : Hp, lvT a g' → ShO a top → g' 53 51 = 1 → g' 53 41 = neS a (top : Int) → P (some (I_ 0)) n (W0 dy) g')
    (h9 : ∀ g' : Hp, lvT a g' → ¬ ShO a top → P (some (I_ 9)) n (W0 dy) g') : Runs miX12_shapesOn (d + 1) [.ref 53, I_ (top : Int)] n (W0 dy) g P := by
  have hN := hI.1
  obtain ⟨dp, hD⟩ := hI.dp
  have hF : RF a := ⟨hN, dp, hD⟩
  obtain ⟨hnn, hn1⟩ := nr_top hI hk
  have hne : neS a (top : Int) = sumN (fun y => if abv (a 60) top 60 y = true then nE a y else 0) (a 53 5).toNat := if_neg (by omega)
  have up : ∀ (G : Hp) (x : Int) (q : Nat), lvT a G → (q = 41 ∨ q = 51) → lvT a (up2 G 53 q x) := fun G x q hG hq i r h1 h2 h3 h4 h5 h6 h7 => by
    rw [show up2 G 53 q x i r = G i r from if_neg (fun z => by omega)]
    exact hG i r h1 h2 h3 h4 h5 h6 h7
  have nEb : ∀ y, 0 ≤ nE a y ∧ nE a y ≤ 2 := fun y => by unfold nE; split <;> split <;> decide
  have sb2 : ∀ i, 0 ≤ sumN (fun y => if abv (a 60) top 60 y = true then nE a y else 0) i ∧ sumN (fun y => if abv (a 60) top 60 y = true then nE a y else 0) i ≤ 2 * i := fun i => sumN_b i fun y _ => by
    have := nEb y
    show 0 ≤ (if abv (a 60) top 60 y = true then nE a y else 0) ∧ (if abv (a 60) top 60 y = true then nE a y else 0) ≤ 2
    split <;> omega
  have key : ∀ (t i : Nat) (G : Hp), i + t = (a 53 5).toNat → lvT a G → G 53 51 = 1 → G 53 41 = sumN (fun y => if abv (a 60) top 60 y = true then nE a y else 0) i → (∀ y, y < i → abv (a 60) top 60 y = true → OKp a y) → V miX12_shapesOn (d + 1) 12 [(0, .ref 53), (1, I_ (top : Int)), (2, I_ (i : Int))] [] n (W0 dy) G 0 0 P := by
    intro t
    induction t with
    | zero =>
      intro i G hi hG h51 h41 hok
      have e5 : G 53 5 = a 53 5 := hG 53 5 (by decide) (by decide) (by decide) (by decide) (by decide) (by decide) (by decide)
      have ei : i = (a 53 5).toNat := by omega
      have e41 : G 53 41 = neS a (top : Int) := by rw [h41, hne, ei]
      refine bX12_shapesOn_12 hn ⟨⟨by omega, by omega⟩, fun _ => ⟨fun q => by omega, fun _ => ⟨fun q => ?_, fun q => ?_⟩⟩, fun q => by omega⟩
      · exact h0 G hG ⟨fun y hy hab => hok y (by omega) hab, by omega⟩ h51 e41
      · exact h9 G hG fun z => by have := z.2; omega
    | succ t ih =>
      intro i G hi hG h51 h41 hok
      have e5 : G 53 5 = a 53 5 := hG 53 5 (by decide) (by decide) (by decide) (by decide) (by decide) (by decide) (by decide)
      have e60 : G 60 = a 60 := funext fun q => hG 60 q (by decide) (by decide) (by decide) (by decide) (by decide) (by decide) (by omega)
      have fr : ∀ r q, 57 ≤ r → r ≤ 67 → G r q = a r q := fun r q h1 h2 => hG r q (by omega) (by omega) (by omega) (by omega) (by omega) (by omega) (by omega)
      have hs := sb2 i
      have ei1 : ((i : Nat) : Int) + 1 = ((i + 1 : Nat) : Int) := by omega
      have hsu : sumN (fun y => if abv (a 60) top 60 y = true then nE a y else 0) (i + 1) = sumN (fun y => if abv (a 60) top 60 y = true then nE a y else 0) i + (if abv (a 60) top 60 i = true then nE a i else 0) := rfl
      have hiN : (i : Int) < a 53 5 := by omega
      refine bX12_shapesOn_12 hn ⟨⟨by omega, by omega⟩, fun q => by omega, fun _ => ?_⟩
      refine spX12_isAbove hn (hF.mv e5 e60) ⟨by omega, by omega⟩ (by omega) (by omega) ⟨fun c => ?_, fun c => ?_⟩
      · rw [e60] at c
        have nab : ¬ abv (a 60) top 60 i = true := fun z => by
          have c' : abvI (a 60) top i = 0 := c
          unfold abvI at c'
          rw [if_pos z] at c'
          omega
        refine bX12_shapesOn_26 hn ⟨by decide, fun z => absurd rfl z, fun _ => ?_⟩
        rw [ei1]
        refine ih (i + 1) G (by omega) hG h51 (by rw [h41, hsu, if_neg nab]; omega) fun y hy hab => ?_
        by_cases z : y = i
        · rw [z] at hab; exact absurd hab nab
        · exact hok y (by omega) hab
      · rw [e60] at c
        have ab : abv (a 60) top 60 i = true := by
          have c' : abvI (a 60) top i = 1 := c
          unfold abvI at c'
          split at c'
          · next z => exact z
          · omega
        have bad : ¬ OKp a i → P (some (I_ 9)) n (W0 dy) G := fun z => h9 G hG fun s => z (s.1 i hiN ab)
        have isr : (a 57 i = 2 ∨ a 57 i = 3) → V miX12_shapesOn (d + 1) 37 [(0, .ref 53), (1, I_ (top : Int)), (2, I_ (i : Int))] [I_ 1] n (W0 dy) G 0 0 P := fun hr => by
          refine bX12_shapesOn_37 hn ⟨by decide, fun q => absurd q (by decide), fun _ => ⟨⟨by omega, by omega⟩, ?_⟩⟩
          show (G 58 i ≠ 0 → _) ∧ (G 58 i = 0 → _)
          rw [fr 58 i (by decide) (by decide)]
          refine ⟨fun q => bad fun z => q z.2.1, fun q => ?_⟩
          refine spX12_isWhole hn hI hiN hr (fr 59 i (by decide) (by decide)) (fr 64 i (by decide) (by decide)) (fr 65 i (by decide) (by decide)) ?_
          have wb := whI_b (a := a) i
          have nx : OKp a i → ∀ x : Int, x = G 53 41 + nE a i → ∀ G' : Hp, lvT a G' → G' 53 51 = 1 → G' 53 41 = x → V miX12_shapesOn (d + 1) 12 [(0, .ref 53), (1, I_ (top : Int)), (2, I_ ((i : Int) + 1))] [] n (W0 dy) G' 0 0 P := fun hK x hx G' hG' h51' h41' => by
            rw [ei1]
            refine ih (i + 1) G' (by omega) hG' h51' (by rw [h41', hx, h41, hsu, if_pos ab]) fun y hy hab => ?_
            by_cases z : y = i
            · rw [z]; exact hK
            · exact hok y (by omega) hab
          refine bX12_shapesOn_54 hn ⟨⟨by omega, by omega⟩, fun z => ⟨⟨by omega, by omega⟩, ?_⟩, fun z => bad fun y => ?_⟩
          · have hK : OKp a i := ⟨hr, q, by
              unfold whI at z
              split at z
              · next t => exact t
              · exact absurd rfl z⟩
            have go := nx hK
            unfold nE at go
            simp only [Int.toNat_natCast, fr 66 i (by decide) (by decide), fr 67 i (by decide) (by decide)]
            have u2 : ∀ x y : Int, lvT a (up2 (up2 G 53 41 x) 53 41 y) ∧ up2 (up2 G 53 41 x) 53 41 y 53 51 = 1 ∧ up2 (up2 G 53 41 x) 53 41 y 53 41 = y := fun x y => ⟨up _ _ _ (up _ _ _ hG (Or.inl rfl)) (Or.inl rfl), by rw [up2_k, if_neg (by decide), up2_k, if_neg (by decide)]; exact h51, by rw [up2_k, if_pos rfl]⟩
            refine ⟨fun c0 => ⟨⟨by omega, by omega⟩, fun c1 => ⟨⟨by omega, by omega⟩, ?_⟩, fun c1 => ⟨⟨by omega, by omega⟩, ?_⟩⟩, fun c0 => ⟨⟨by omega, by omega⟩, fun c1 => ⟨⟨by omega, by omega⟩, ?_⟩, fun c1 => ⟨⟨by omega, by omega⟩, ?_⟩⟩⟩
            · rw [if_neg (by omega), if_neg (by omega)] at go
              exact go _ (by omega) _ (u2 _ _).1 (u2 _ _).2.1 (u2 _ _).2.2
            · rw [if_neg (by omega), if_pos (by omega)] at go
              exact go _ (by omega) _ (u2 _ _).1 (u2 _ _).2.1 (u2 _ _).2.2
            · rw [if_pos (by omega), if_neg (by omega)] at go
              exact go _ (by omega) _ (u2 _ _).1 (u2 _ _).2.1 (u2 _ _).2.2
            · rw [if_pos (by omega), if_pos (by omega)] at go
              exact go _ (by omega) _ (u2 _ _).1 (u2 _ _).2.1 (u2 _ _).2.2
          · unfold whI at z
            rw [if_pos y.2.2] at z
            exact absurd z (by decide)
        refine bX12_shapesOn_26 hn ⟨by decide, fun _ => ?_, fun z => absurd z (by decide)⟩
        refine wX12_isRod hn ⟨⟨by omega, by omega⟩, ?_⟩
        show (G 57 i = 2 → _) ∧ (G 57 i ≠ 2 → (G 57 i ≠ 3 → _) ∧ (G 57 i = 3 → _))
        rw [fr 57 i (by decide) (by decide)]
        refine ⟨fun q => isr (Or.inl q), fun q => ⟨fun q2 => ?_, fun q2 => isr (Or.inr q2)⟩⟩
        exact bX12_shapesOn_37 hn ⟨by decide, fun _ => bad fun z => by have := z.1; omega, fun z => absurd rfl z⟩
  refine wX12_shapesOn hn ?_
  exact key (a 53 5).toNat 0 _ (by omega) (up _ _ _ (up _ _ _ hl (Or.inr rfl)) (Or.inl rfl)) (by rw [up2_k, if_neg (by decide), up2_k, if_pos rfl]) (by rw [up2_k, if_pos rfl]; rfl) (fun y hy => by omega)
theorem rs_shapes (hn : 100 ≤ n) (hI : Inv a) (hk : (top : Int) < a 53 5) (hall : 0 < all) (ha : all ≤ 10000000)
    (h9 : ∀ g' : Hp, lvT a g' → ¬ ShO a top → P (some (I_ 9)) n (W0 dy) g')
    (hs : ∀ g' : Hp, lvT a g' → ShO a top → ¬ whS a 8 (top : Int) all → g' 53 51 = 1 → g' 53 41 = neS a (top : Int) → P (some (I_ 0)) n (W0 dy) g')
    (h0 : ∀ g' : Hp, lvS a g' → ShO a top → g' 53 41 = neS a (top : Int) → Fs a all g' 0 (neS a (top : Int)).toNat (top : Int) 1 1 0 → P (some (I_ 0)) n (W0 dy) g') : Runs miX12_shapes (d + 2) [.ref 53, I_ (top : Int)] n (W0 dy) a P := by
  obtain ⟨dp, hD⟩ := hI.dp
  have hN := hI.1
  obtain ⟨hnn, hn1⟩ := nr_top hI hk
  have hdt := (hD top hk).2.1
  refine wX12_shapes hn ⟨⟨by omega, by omega⟩, ⟨by omega, by omega⟩, ?_⟩
  show V miX12_shapes (d + 1 + 1) 35 [(0, .ref 53), (1, I_ (top : Int)), (2, I_ ((0 + 1 : Nat) : Int))] [] n (W0 dy) (up2 (up2 (up2 (up2 (up2 a 53 41 0) 90 0 (top : Int)) 91 0 (-1)) 86 top 1) 87 top 1) 0 0 P
  have l0 : lvS a (up2 (up2 (up2 (up2 (up2 a 53 41 0) 90 0 (top : Int)) 91 0 (-1)) 86 top 1) 87 top 1) := ((((lvS.up (fun _ _ _ _ _ _ _ _ _ => rfl) (by omega)).up (by omega)).up (by omega)).up (by omega)).up (by omega)
  have q86 : up2 (up2 (up2 (up2 (up2 a 53 41 0) 90 0 (top : Int)) 91 0 (-1)) 86 top 1) 87 top 1 86 top = 1 := by rw [up2_i (by decide), up2_k, if_pos rfl]
  have q87 : up2 (up2 (up2 (up2 (up2 a 53 41 0) 90 0 (top : Int)) 91 0 (-1)) 86 top 1) 87 top 1 87 top = 1 := by rw [up2_k, if_pos rfl]
  have q41 : up2 (up2 (up2 (up2 (up2 a 53 41 0) 90 0 (top : Int)) 91 0 (-1)) 86 top 1) 87 top 1 53 41 = ((0 : Nat) : Int) := by
    rw [up2_i (by decide), up2_i (by decide), up2_i (by decide), up2_i (by decide), up2_k, if_pos rfl]; rfl
  have q90 : up2 (up2 (up2 (up2 (up2 a 53 41 0) 90 0 (top : Int)) 91 0 (-1)) 86 top 1) 87 top 1 90 0 = (top : Int) := by
    rw [up2_i (by decide), up2_i (by decide), up2_i (by decide), up2_k, if_pos rfl]
  have q91 : up2 (up2 (up2 (up2 (up2 a 53 41 0) 90 0 (top : Int)) 91 0 (-1)) 86 top 1) 87 top 1 91 0 = -1 := by
    rw [up2_i (by decide), up2_i (by decide), up2_k, if_pos rfl]
  generalize up2 (up2 (up2 (up2 (up2 a 53 41 0) 90 0 (top : Int)) 91 0 (-1)) 86 top 1) 87 top 1 = G at *
  refine sh_rod (d := d) (Wh := whS a 8 (top : Int) all) hn hI hD hall ha hk (fun g' hl hb => h9 g' hl.t fun z => ?_) (fun g' hl hw Q hQ => ?_) (60 - dp top) top 0 0 0 0 G (by omega) hk (abv_self hD hN.2 hk) (by omega) l0 q41 (by omega) q90 q91 ?_ (fun hw => ?_) (by omega) fun g' E' hS => ?_
  · rcases hb with ⟨y, hy, hab, hbad⟩ | hb
    · exact hbad (z.1 y hy hab)
    · have := z.2; omega
  · exact rs_shapesOn hn hI hk hl.t (fun g'' hl' hok h51 h41 => hQ 0 g'' (hs g'' hl' hok hw h51 h41)) (fun g'' hl' hok => hQ 9 g'' (h9 g'' hl' hok))
  · rw [q86, q87]; unfold od; decide
  · rw [q86, q87]
    refine ⟨by decide, by decide, by decide, Int.one_dvd _, 8, ?_⟩
    rw [Int.mul_one, Int.ediv_one]; exact hw
  · obtain ⟨s1, s2, s3, _, _, _, s7, s8, s9⟩ := hS
    rw [q86, q87] at s7
    have hok : ShO a top := ⟨s9 (by omega), by omega⟩
    have e41 : g' 53 41 = neS a (top : Int) := by rw [s2]; omega
    refine bX12_shapes_35 hn ⟨by decide, fun _ => ⟨fun _ => h0 g' s1 hok e41 ?_, fun q => by omega⟩, fun q => absurd q (by decide)⟩
    rw [show (neS a (top : Int)).toNat = E' by omega]
    exact s7
end Shapes3
