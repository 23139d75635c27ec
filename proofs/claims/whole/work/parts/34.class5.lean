/-! THE CLASS: swap -/
section Class5
variable {d n : Nat} {dy : Nat → Shp} {g a : Hp} {P : Pst}
/-- a side of a rod: nothing, or a part that knows where it hangs -/
theorem side_b (hC : Ca n dy g a) (hI : Inv a) {x : Nat} (hx : (x : Int) < a 53 5) (hk : a 57 x = 2 ∨ a 57 x = 3) :
    ((a 66 x < 0 ∧ g (g 3 x).toNat 14 = 0) ∨ (0 ≤ a 66 x ∧ ((a 66 x).toNat : Int) < a 53 5 ∧ g (g 3 x).toNat 14 = g 3 (a 66 x).toNat ∧ g (g 3 (a 66 x).toNat).toNat 3 = g 3 x)) ∧
    ((a 67 x < 0 ∧ g (g 3 x).toNat 15 = 0) ∨ (0 ≤ a 67 x ∧ ((a 67 x).toNat : Int) < a 53 5 ∧ g (g 3 x).toNat 15 = g 3 (a 67 x).toNat ∧ g (g 3 (a 67 x).toNat).toNat 3 = g 3 x)) := by
  obtain ⟨-, kl, kr⟩ := (hC.known hx).2 hk
  have hp := (hI.2.2.1 x hx).1
  refine ⟨?_, ?_⟩
  · by_cases c : a 66 x < 0
    · exact Or.inl ⟨c, kl.trans (if_pos c)⟩
    · have hz : ((a 66 x).toNat : Int) < a 53 5 := by have := hp.2.2.2.1.2.1; omega
      refine Or.inr ⟨by omega, hz, kl.trans (if_neg c), ?_⟩
      rw [(hC.known hz).1.1, (hp.2.2.2.1.2.2 (by omega)).1]
      exact if_neg (by omega)
  · by_cases c : a 67 x < 0
    · exact Or.inl ⟨c, kr.trans (if_pos c)⟩
    · have hz : ((a 67 x).toNat : Int) < a 53 5 := by have := hp.2.2.2.2.2.1; omega
      refine Or.inr ⟨by omega, hz, kr.trans (if_neg c), ?_⟩
      rw [(hC.known hz).1.1, (hp.2.2.2.2.2.2 (by omega)).1]
      exact if_neg (by omega)
/-- the chain of writes of swap, seen at the cells of parts -/
theorem swap_hu (hC : Ca n dy g a) {x : Nat} (hx : (x : Int) < a 53 5) {R L : Int} (hR : (a 67 x < 0 ∧ R = 0) ∨ (0 ≤ a 67 x ∧ ((a 67 x).toNat : Int) < a 53 5 ∧ R = g 3 (a 67 x).toNat ∧ g (g 3 (a 67 x).toNat).toNat 3 = g 3 x)) (hL : (a 66 x < 0 ∧ L = 0) ∨ (0 ≤ a 66 x ∧ ((a 66 x).toNat : Int) < a 53 5 ∧ L = g 3 (a 66 x).toNat ∧ g (g 3 (a 66 x).toNat).toNat 3 = g 3 x)) {g1 g2 : Hp}
    (h1 : (a 67 x < 0 ∧ ∀ i q, g1 i q = up2 g (g 3 x).toNat 14 R i q) ∨ (0 ≤ a 67 x ∧ ∀ i q, g1 i q = up2 (up2 (up2 g (g 3 x).toNat 14 R) R.toNat 3 (g 3 x)) R.toNat 4 0 i q))
    (h2 : (a 66 x < 0 ∧ ∀ i q, g2 i q = up2 g1 (g 3 x).toNat 15 L i q) ∨ (0 ≤ a 66 x ∧ ∀ i q, g2 i q = up2 (up2 (up2 g1 (g 3 x).toNat 15 L) L.toNat 3 (g 3 x)) L.toNat 4 1 i q)) :
    (∀ j : Nat, (j : Int) < a 53 5 → ∀ q, g2 (g 3 j).toNat q = if j = x ∧ q = 14 then R else if j = x ∧ q = 15 then L else if q = 4 ∧ 0 ≤ a 66 x ∧ j = (a 66 x).toNat then 1 else if q = 4 ∧ 0 ≤ a 67 x ∧ j = (a 67 x).toNat then 0 else g (g 3 j).toNat q) ∧ (∀ i q, i < 100 → g2 i q = g i q) ∧ Kr g g2 := by
  have bx := hC.cell hx
  -- what each of the two steps does to a part's cell, and to others
  have s1 : (∀ j : Nat, (j : Int) < a 53 5 → ∀ q, g1 (g 3 j).toNat q = if j = x ∧ q = 14 then R else if q = 4 ∧ 0 ≤ a 67 x ∧ j = (a 67 x).toNat then 0 else g (g 3 j).toNat q) ∧ (∀ i q, (i < 100 → g1 i q = g i q)) := by
    rcases h1 with ⟨c, h1⟩ | ⟨c, h1⟩
    · refine ⟨fun j hj q => ?_, fun i q hi => ?_⟩
      · rw [h1, up2_ap]
        simp only [hC.ne hj hx]
        rw [if_neg (c := q = 4 ∧ 0 ≤ a 67 x ∧ j = (a 67 x).toNat) (by omega)]
      · rw [h1, up2_i (by omega)]
    · rcases hR with ⟨c', -⟩ | ⟨-, hy, eR, e3⟩
      · omega
      · have by_ := hC.cell hy
        subst eR
        refine ⟨fun j hj q => ?_, fun i q hi => ?_⟩
        · rw [h1]
          simp only [up2_ap, hC.ne hj hx, hC.ne hj hy]
          by_cases e : j = (a 67 x).toNat
          · subst e
            by_cases q4 : q = 4
            · rw [if_pos ⟨rfl, q4⟩, if_neg (by omega), if_pos ⟨q4, c, rfl⟩]
            · rw [if_neg (fun z => q4 z.2), if_neg (c := q = 4 ∧ _) (fun z => q4 z.1)]
              by_cases q3 : q = 3
              · rw [if_pos ⟨rfl, q3⟩, if_neg (by omega), q3, e3]
              · rw [if_neg (fun z => q3 z.2)]
          · rw [if_neg (fun z => e z.1), if_neg (fun z => e z.1), if_neg (c := q = 4 ∧ _) (fun z => e z.2.2)]
        · rw [h1, up2_i (by omega), up2_i (by omega), up2_i (by omega)]
  have s2 : (∀ j : Nat, (j : Int) < a 53 5 → ∀ q, g2 (g 3 j).toNat q = if j = x ∧ q = 15 then L else if q = 4 ∧ 0 ≤ a 66 x ∧ j = (a 66 x).toNat then 1 else g1 (g 3 j).toNat q) ∧ (∀ i q, (i < 100 → g2 i q = g1 i q)) := by
    rcases h2 with ⟨c, h2⟩ | ⟨c, h2⟩
    · refine ⟨fun j hj q => ?_, fun i q hi => ?_⟩
      · rw [h2, up2_ap]
        simp only [hC.ne hj hx]
        rw [if_neg (c := q = 4 ∧ 0 ≤ a 66 x ∧ j = (a 66 x).toNat) (by omega)]
      · rw [h2, up2_i (by omega)]
    · rcases hL with ⟨c', -⟩ | ⟨-, hy, eL, e3⟩
      · omega
      · have by_ := hC.cell hy
        subst eL
        refine ⟨fun j hj q => ?_, fun i q hi => ?_⟩
        · rw [h2]
          simp only [up2_ap, hC.ne hj hx, hC.ne hj hy]
          by_cases e : j = (a 66 x).toNat
          · subst e
            by_cases q4 : q = 4
            · rw [if_pos ⟨rfl, q4⟩, if_neg (by omega), if_pos ⟨q4, c, rfl⟩]
            · rw [if_neg (fun z => q4 z.2), if_neg (c := q = 4 ∧ _) (fun z => q4 z.1)]
              by_cases q3 : q = 3
              · rw [if_pos ⟨rfl, q3⟩, if_neg (by omega), q3, s1.1 _ hy 3, if_neg (by omega), if_neg (by omega), e3]
              · rw [if_neg (fun z => q3 z.2)]
          · rw [if_neg (fun z => e z.1), if_neg (fun z => e z.1), if_neg (c := q = 4 ∧ _) (fun z => e z.2.2)]
        · rw [h2, up2_i (by omega), up2_i (by omega), up2_i (by omega)]
  refine ⟨fun j hj q => ?_, fun i q hi => (s2.2 i q hi).trans (s1.2 i q hi), fun i q hi => (s2.2 i q (by omega)).trans (s1.2 i q (by omega))⟩
  rw [s2.1 j hj q, s1.1 j hj q]
  by_cases c : j = x ∧ q = 14
  · rw [if_pos c, if_neg (by omega), if_neg (by omega), if_pos c]
  · rw [if_neg c, if_neg c]
theorem cs_swap {x1 : Int} (hC : Ca n dy g a) (hI : Inv a) (h1 : i3 x1) (h : ∀ v a' g', opSwap a x1 = (v, a') → Ca n dy g' a' → Kr g g' → P (some (I_ v)) n (W0 dy) g') : Runs miX11_swap (d + 2) [.ref 1, I_ x1] n (W0 dy) g P := by
  have hn := hC.1
  have kr : ∀ w, Kr g (up2 g 1 3 w) := fun w => (Kr.refl g).up (by omega)
  have hb := rodI_b a x1
  refine wX11_swap hn (cs_rodGiven hC hI h1 ⟨fun c => ?_, fun c => ?_⟩)
  · exact bX11_swap_5 hn ⟨fun q => absurd q (Nat.lt_irrefl 0), fun _ => h _ _ _ (by unfold opSwap; exact if_pos c) (hC.st _) (kr _)⟩
  · obtain ⟨⟨b1, b2⟩, b3⟩ := hb.2 c
    clear hb
    obtain ⟨x, rfl⟩ := exN b1
    have hx : (x : Int) < a 53 5 := b2
    have hk : a 57 x = 2 ∨ a 57 x = 3 := b3
    have eop := opSwap_eq c
    clear c b1 b2 b3
    have hC0 := hC.st 0
    have hI0 : Inv (up2 a 53 0 0) := hI.st 0
    have ob : Ob n (W0 dy) (g 3 x).toNat 5 := (hC.2.2.2.1 _ hx).ob hk
    have bx := hC.cell hx
    obtain ⟨sL, sR⟩ := side_b hC0 hI0 (x := x) hx hk
    have ex : (((g 3 x).toNat : Nat) : Int) = g 3 x := Int.toNat_of_nonneg (by omega)
    -- the end
    have fin : ∀ g1 g2 : Hp, ((a 67 x < 0 ∧ ∀ i q, g1 i q = up2 (up2 g 1 3 0) (g 3 x).toNat 14 ((up2 g 1 3 0) (g 3 x).toNat 15) i q) ∨ (0 ≤ a 67 x ∧ ∀ i q, g1 i q = up2 (up2 (up2 (up2 g 1 3 0) (g 3 x).toNat 14 ((up2 g 1 3 0) (g 3 x).toNat 15)) ((up2 g 1 3 0) (g 3 x).toNat 15).toNat 3 (g 3 x)) ((up2 g 1 3 0) (g 3 x).toNat 15).toNat 4 0 i q)) → ((a 66 x < 0 ∧ ∀ i q, g2 i q = up2 g1 (g 3 x).toNat 15 ((up2 g 1 3 0) (g 3 x).toNat 14) i q) ∨ (0 ≤ a 66 x ∧ ∀ i q, g2 i q = up2 (up2 (up2 g1 (g 3 x).toNat 15 ((up2 g 1 3 0) (g 3 x).toNat 14)) ((up2 g 1 3 0) (g 3 x).toNat 14).toNat 3 (g 3 x)) ((up2 g 1 3 0) (g 3 x).toNat 14).toNat 4 1 i q)) → V miX11_swap (d + 2) 32 [(0, .ref 1), (1, I_ (x : Int)), (2, .ref (g 3 x).toNat), (3, .ref ((up2 g 1 3 0) (g 3 x).toNat 14).toNat)] [] n (W0 dy) g2 0 0 P := fun g1 g2 e1 e2 => by
      obtain ⟨z1, z2, z3⟩ := swap_hu hC0 hx sR sL e1 e2
      refine bX11_swap_32 hn (wX11_allows hn (bX11_swap_36 hn ⟨Or.inr rfl, ?_⟩))
      refine h _ _ _ eop (Ca.swap hC0 hI0 hx hk ⟨?_, rfl, ?_⟩ (fun i q i1 i2 => ?_) (fun j hj q => ?_)) (((kr 0).trans z3).up (by omega))
      · show up2 g2 1 3 0 1 2 = up2 g 1 3 0 1 2
        rw [up2_k, if_neg (by omega)]; exact z2 1 2 (by omega)
      · show up2 g2 1 3 0 1 11 = up2 g 1 3 0 1 11
        rw [up2_k, if_neg (by omega)]; exact z2 1 11 (by omega)
      · rw [up2_i i2]; exact z2 i q i1
      · have bj := hC0.cell hj
        rw [up2_i (by omega)]; exact z1 j hj q
    clear h eop
    refine bX11_swap_5 hn ⟨fun _ => ⟨ob, ?_⟩, fun q => absurd (show (g 3 x).toNat = 0 from q) (by omega)⟩
    show Runs miX6_bear (d + 1) [.ref (g 3 x).toNat, I_ 0, .ref ((up2 g 1 3 0) (g 3 x).toNat 15).toNat] n (W0 dy) (up2 g 1 3 0) (fun v n' S' g' => V miX11_swap (d + 2) 26 [(0, .ref 1), (1, I_ (x : Int)), (2, .ref (g 3 x).toNat), (3, .ref ((up2 g 1 3 0) (g 3 x).toNat 14).toNat)] (v.toList ++ []) n' S' g' 0 0 P)
    -- the second bearing, from any state behind the first
    have sec : ∀ g1 : Hp, ((a 67 x < 0 ∧ ∀ i q, g1 i q = up2 (up2 g 1 3 0) (g 3 x).toNat 14 ((up2 g 1 3 0) (g 3 x).toNat 15) i q) ∨ (0 ≤ a 67 x ∧ ∀ i q, g1 i q = up2 (up2 (up2 (up2 g 1 3 0) (g 3 x).toNat 14 ((up2 g 1 3 0) (g 3 x).toNat 15)) ((up2 g 1 3 0) (g 3 x).toNat 15).toNat 3 (g 3 x)) ((up2 g 1 3 0) (g 3 x).toNat 15).toNat 4 0 i q)) → V miX11_swap (d + 2) 26 [(0, .ref 1), (1, I_ (x : Int)), (2, .ref (g 3 x).toNat), (3, .ref ((up2 g 1 3 0) (g 3 x).toNat 14).toNat)] [] n (W0 dy) g1 0 0 P := fun g1 e1 => by
      have fin := fin g1
      refine bX11_swap_26 hn ⟨ob, wX6_bear hn ⟨by decide, fun _ => ⟨ob, fun q => ?_, fun q => ?_⟩, fun q9 => absurd q9 (by decide)⟩⟩
      · rcases sL with ⟨s1, s2⟩ | ⟨s1, s2, s3, s4⟩
        · have s2 : (up2 g 1 3 0) (g 3 x).toNat 14 = 0 := s2
          refine fin _ e1 (Or.inl ⟨s1, fun i q => ?_⟩)
          rw [s2]; rfl
        · have hc := hC0.cell s2
          have s3 : (up2 g 1 3 0) (g 3 x).toNat 14 = (up2 g 1 3 0) 3 (a 66 x).toNat := s3
          have hc : 100 ≤ (up2 g 1 3 0) 3 (a 66 x).toNat := hc.1
          omega
      · rcases sL with ⟨s1, s2⟩ | ⟨s1, s2, s3, s4⟩
        · have s2 : (up2 g 1 3 0) (g 3 x).toNat 14 = 0 := s2
          omega
        · have hc := hC0.cell s2
          have s3 : (up2 g 1 3 0) (g 3 x).toNat 14 = (up2 g 1 3 0) 3 (a 66 x).toNat := s3
          have hp := (hC0.2.2.2.1 _ s2).pt (hI0.2.2.1 _ s2).2
          rw [← show (up2 g 1 3 0) (g 3 x).toNat 14 = (up2 g 1 3 0) 3 ((up2 a 53 0 0) 66 x).toNat from s3] at hp
          have eL : ((((up2 g 1 3 0) (g 3 x).toNat 14).toNat : Nat) : Int) = (up2 g 1 3 0) (g 3 x).toNat 14 := Int.toNat_of_nonneg (by omega)
          refine ⟨hp, fin _ e1 (Or.inr ⟨s1, fun i q => ?_⟩)⟩
          rw [eL, ex]
    refine wX6_bear hn ⟨by decide, fun q9 => absurd rfl q9, fun _ => ⟨ob, fun q => ?_, fun q => ?_⟩⟩
    · rcases sR with ⟨s1, s2⟩ | ⟨s1, s2, s3, s4⟩
      · have s2 : (up2 g 1 3 0) (g 3 x).toNat 15 = 0 := s2
        refine sec _ (Or.inl ⟨s1, fun i q => ?_⟩)
        rw [s2]; rfl
      · have hc := hC0.cell s2
        have s3 : (up2 g 1 3 0) (g 3 x).toNat 15 = (up2 g 1 3 0) 3 (a 67 x).toNat := s3
        have hc : 100 ≤ (up2 g 1 3 0) 3 (a 67 x).toNat := hc.1
        omega
    · rcases sR with ⟨s1, s2⟩ | ⟨s1, s2, s3, s4⟩
      · have s2 : (up2 g 1 3 0) (g 3 x).toNat 15 = 0 := s2
        omega
      · have hc := hC0.cell s2
        have s3 : (up2 g 1 3 0) (g 3 x).toNat 15 = (up2 g 1 3 0) 3 (a 67 x).toNat := s3
        have hp := (hC0.2.2.2.1 _ s2).pt (hI0.2.2.1 _ s2).2
        rw [← show (up2 g 1 3 0) (g 3 x).toNat 15 = (up2 g 1 3 0) 3 ((up2 a 53 0 0) 67 x).toNat from s3] at hp
        have eR : ((((up2 g 1 3 0) (g 3 x).toNat 15).toNat : Nat) : Int) = (up2 g 1 3 0) (g 3 x).toNat 15 := Int.toNat_of_nonneg (by omega)
        refine ⟨hp, sec _ (Or.inr ⟨s1, fun i q => ?_⟩)⟩
        rw [eR, ex]
end Class5
