/-! THE CLASS: parts asked for by number -/
section Class1
variable {d n : Nat} {dy : Nat → Shp} {g a : Hp} {P : Pst}
theorem cs_partAt {x1 : Int} (hC : Ca n dy g a) (hI : Inv a) (h1 : i3 x1) (h : ((x1 < 0 ∨ a 53 5 ≤ x1) → P (some (.ref 0)) n (W0 dy) g) ∧ (0 ≤ x1 → x1 < a 53 5 → P (some (.ref (g 3 x1.toNat).toNat)) n (W0 dy) g)) : Runs miX11_partAt d [.ref 1, I_ x1] n (W0 dy) g P := by
  have e := hC.2.1.1
  have hN := hI.1
  exact wX11_partAt hC.1 ⟨h1, fun q => h.1 (by omega), fun q => ⟨fun q2 => h.1 (by omega), fun q2 => ⟨fun q3 => by omega, fun q3 => ⟨⟨q, q3⟩, h.2 q (by omega)⟩⟩⟩⟩
theorem cs_asRod0 (hn : 100 ≤ n) (h : P (some (.ref 0)) n (W0 dy) g) : Runs miX11_asRod d [.ref 0] n (W0 dy) g P :=
  wX11_asRod hn ⟨Or.inl rfl, fun _ => h, fun q => absurd rfl q⟩
theorem cs_asRod {k : Nat} (hC : Ca n dy g a) (hI : Inv a) (hk : (k : Int) < a 53 5) (h : ((a 57 k = 2 ∨ a 57 k = 3) → P (some (.ref (g 3 k).toNat)) n (W0 dy) g) ∧ (¬ (a 57 k = 2 ∨ a 57 k = 3) → P (some (.ref 0)) n (W0 dy) g)) : Runs miX11_asRod d [.ref (g 3 k).toNat] n (W0 dy) g P := by
  have hp := hC.2.2.2.1 k hk
  have hK := (hI.2.2.1 k hk).2
  have e := hp.isk hK
  by_cases c : a 57 k = 2 ∨ a 57 k = 3
  · rw [if_pos c] at e
    exact wX11_asRod hC.1 ⟨Or.inr (hp.pt hK), fun q => by omega, fun q => ⟨hp.ob c, h.1 c⟩⟩
  · rw [if_neg c] at e
    exact wX11_asRod hC.1 ⟨Or.inr (hp.pt hK), fun q => h.2 c, fun q => absurd e q⟩
theorem cs_rodGiven {x1 : Int} (hC : Ca n dy g a) (hI : Inv a) (h1 : i3 x1) (h : (0 < rodI a x1 → P (some (.ref 0)) n (W0 dy) (up2 g 1 3 (rodI a x1))) ∧ (rodI a x1 = 0 → P (some (.ref (g 3 x1.toNat).toNat)) n (W0 dy) (up2 g 1 3 0))) : Runs miX11_rodGiven (d + 1) [.ref 1, I_ x1] n (W0 dy) g P := by
  refine wX11_rodGiven hC.1 (cs_partAt hC hI h1 ⟨fun c => bX11_rodGiven_5 hC.1 (cs_asRod0 hC.1 ?_), fun c1 c2 => bX11_rodGiven_5 hC.1 (cs_asRod hC hI (by omega) ⟨fun c3 => ?_, fun c3 => ?_⟩)⟩)
  · have e : rodI a x1 = 2 := by unfold rodI; rw [if_pos c]
    rw [e] at h
    exact bX11_rodGiven_10 hC.1 ⟨fun q => by omega, fun _ => h.1 (by decide)⟩
  · have e : rodI a x1 = 0 := by unfold rodI; rw [if_neg (by omega), if_pos c3]
    have hb := hC.cell (k := x1.toNat) (by omega)
    exact bX11_rodGiven_10 hC.1 ⟨fun _ => ⟨fun _ => h.2 e, fun q => by omega⟩, fun q => by omega⟩
  · have e : rodI a x1 = 5 := by unfold rodI; rw [if_neg (by omega), if_neg c3]
    have hb := hC.cell (k := x1.toNat) (by omega)
    rw [e] at h
    exact bX11_rodGiven_10 hC.1 ⟨fun _ => ⟨fun q => by omega, fun _ => h.1 (by decide)⟩, fun q => by omega⟩
/-- what the reference's topped says -/
def topI (a : Hp) (x1 : Int) : Int := if x1 < 0 ∨ a 53 5 ≤ x1 then 2 else if 0 ≤ a 60 x1.toNat then 8 else 0
theorem above_b (hC : Ca n dy g a) (hI : Inv a) {k : Nat} (hk : (k : Int) < a 53 5) : (a 60 k < 0 → g (g 3 k).toNat 3 = 0) ∧ (0 ≤ a 60 k → ((a 60 k).toNat : Int) < a 53 5 ∧ g (g 3 k).toNat 3 = g 3 (a 60 k).toNat ∧ 100 ≤ g 3 (a 60 k).toNat ∧ g 3 (a 60 k).toNat < n ∧ (a 57 (a 60 k).toNat = 2 ∨ a 57 (a 60 k).toNat = 3)) := by
  have e := (hC.known hk).1.1
  have hp := (hI.2.2.1 k hk).1
  refine ⟨fun c => by rw [e]; exact if_pos c, fun c => ?_⟩
  have hr : ((a 60 k).toNat : Int) < a 53 5 := by have := hp.1; omega
  exact ⟨hr, by rw [e]; exact if_neg (by omega), (hC.cell hr).1, (hC.cell hr).2, (hp.2.2.1 c).2.1⟩
theorem cs_topGiven {x1 : Int} (hC : Ca n dy g a) (hI : Inv a) (h1 : i3 x1) (h : (0 < topI a x1 → P (some (.ref 0)) n (W0 dy) (up2 g 1 3 (topI a x1))) ∧ (topI a x1 = 0 → P (some (.ref (g 3 x1.toNat).toNat)) n (W0 dy) (up2 g 1 3 0))) : Runs miX11_topGiven (d + 1) [.ref 1, I_ x1] n (W0 dy) g P := by
  refine wX11_topGiven hC.1 (cs_partAt hC hI h1 ⟨fun c => ?_, fun c1 c2 => ?_⟩)
  · have e : topI a x1 = 2 := by unfold topI; rw [if_pos c]
    rw [e] at h
    have h' := h.1 (by decide)
    refine bX11_topGiven_5 hC.1 ?_
    exact ⟨fun q => by omega, fun _ => h'⟩
  · have hk : ((x1.toNat : Nat) : Int) < a 53 5 := by omega
    have hb := hC.cell hk
    obtain ⟨u1, u2⟩ := above_b hC hI hk
    have hp := (hC.2.2.2.1 _ hk).pt (hI.2.2.1 _ hk).2
    refine bX11_topGiven_5 hC.1 ?_
    by_cases c : a 60 x1.toNat < 0
    · have e : topI a x1 = 0 := by unfold topI; rw [if_neg (by omega), if_neg (by omega)]
      have h' := h.2 e
      have := u1 c
      exact ⟨fun _ => ⟨hp, fun q => h', fun q => by omega⟩, fun q => by omega⟩
    · have e : topI a x1 = 8 := by unfold topI; rw [if_neg (by omega), if_pos (by omega)]
      rw [e] at h
      have h' := h.1 (by decide)
      have := u2 (by omega)
      exact ⟨fun _ => ⟨hp, fun q => by omega, fun q => h'⟩, fun q => by omega⟩
theorem cs_topOf {k : Nat} (hC : Ca n dy g a) (hI : Inv a) (hk : (k : Int) < a 53 5) (h : P (some (.ref (g 3 (top (a 60) 60 k)).toNat)) n (W0 dy) g) : Runs miX11_topOf d [.ref (g 3 k).toNat] n (W0 dy) g P := by
  obtain ⟨dp, hD⟩ := hI.dp
  have hN := hI.1.2
  have key : ∀ (f j : Nat), dp j = f → (j : Int) < a 53 5 → P (some (.ref (g 3 (top (a 60) 60 j)).toNat)) n (W0 dy) g → V miX11_topOf d 7 [(0, .ref (g 3 k).toNat), (1, .ref (g 3 j).toNat), (2, .ref ((g (g 3 j).toNat 3).toNat))] [] n (W0 dy) g 0 0 P := by
    intro f
    induction f with
    | zero =>
      intro j hf hj hP
      obtain ⟨q1, q2, q3, q4⟩ := hD j hj
      obtain ⟨u1, u2⟩ := above_b hC hI hj
      have c : a 60 j < 0 := by
        by_cases c : a 60 j < 0
        · exact c
        · have := q4 (by omega); omega
      rw [top_eq hD hN hj, if_pos c] at hP
      rw [u1 c]
      exact bX11_topOf_7 hC.1 ⟨fun _ => hP, fun q => by omega⟩
    | succ f ih =>
      intro j hf hj hP
      obtain ⟨q1, q2, q3, q4⟩ := hD j hj
      obtain ⟨u1, u2⟩ := above_b hC hI hj
      have c : 0 ≤ a 60 j := by
        by_cases c : a 60 j < 0
        · have := q3 c; omega
        · omega
      obtain ⟨v1, v2, v3, v4, v5⟩ := u2 c
      rw [top_eq hD hN hj, if_neg (by omega)] at hP
      rw [v2]
      exact bX11_topOf_7 hC.1 ⟨fun q => by omega, fun _ => ⟨(hC.2.2.2.1 _ v1).ob v5, ih _ (by have := q4 c; omega) v1 hP⟩⟩
  exact wX11_topOf hC.1 ⟨(hC.2.2.2.1 k hk).pt (hI.2.2.1 k hk).2, key _ k rfl hk h⟩
theorem cs_heightOf {k : Nat} (hC : Ca n dy g a) (hI : Inv a) (hk : (k : Int) < a 53 5) (h : P (some (I_ (hgt (a 60) (a 62) 60 k))) n (W0 dy) g) : Runs miX11_heightOf d [.ref (g 3 k).toNat] n (W0 dy) g P := by
  obtain ⟨dp, hD⟩ := hI.dp
  have hN := hI.1.2
  have key : ∀ (f j : Nat) (x : Int), dp j = f → (j : Int) < a 53 5 → P (some (I_ (x + hgt (a 60) (a 62) 60 j - a 62 j))) n (W0 dy) g → V miX11_heightOf d 10 [(0, .ref (g 3 k).toNat), (1, I_ x), (2, .ref ((g (g 3 j).toNat 3).toNat))] [] n (W0 dy) g 0 0 P := by
    intro f
    induction f with
    | zero =>
      intro j x hf hj hP
      obtain ⟨q1, q2, q3, q4⟩ := hD j hj
      obtain ⟨u1, u2⟩ := above_b hC hI hj
      have c : a 60 j < 0 := by
        by_cases c : a 60 j < 0
        · exact c
        · have := q4 (by omega); omega
      have := ((hI.2.2.1 j hj).1.2.1 c).2
      rw [hgt_eq hD hN hj, if_pos c, this, Int.add_zero, Int.sub_zero] at hP
      rw [u1 c]
      exact bX11_heightOf_10 hC.1 ⟨fun _ => hP, fun q => by omega⟩
    | succ f ih =>
      intro j x hf hj hP
      obtain ⟨q1, q2, q3, q4⟩ := hD j hj
      obtain ⟨u1, u2⟩ := above_b hC hI hj
      have c : 0 ≤ a 60 j := by
        by_cases c : a 60 j < 0
        · have := q3 c; omega
        · omega
      obtain ⟨v1, v2, v3, v4, v5⟩ := u2 c
      rw [hgt_eq hD hN hj, if_neg (by omega)] at hP
      rw [v2]
      refine bX11_heightOf_10 hC.1 ⟨fun q => by omega, fun _ => ⟨(hC.2.2.2.1 _ v1).ob v5, ih _ _ (by have := q4 c; omega) v1 ?_⟩⟩
      rw [(hC.known v1).1.2.2]
      have e : x + (a 62 j + hgt (a 60) (a 62) 60 (a 60 j).toNat) - a 62 j = x + a 62 (a 60 j).toNat + hgt (a 60) (a 62) 60 (a 60 j).toNat - a 62 (a 60 j).toNat := by omega
      rw [e] at hP; exact hP
  refine wX11_heightOf hC.1 ⟨(hC.2.2.2.1 k hk).pt (hI.2.2.1 k hk).2, ?_⟩
  rw [(hC.known hk).1.2.2]
  refine key _ k _ rfl hk ?_
  have e : a 62 k + hgt (a 60) (a 62) 60 k - a 62 k = hgt (a 60) (a 62) 60 k := by omega
  rw [e]; exact h
/-- isAbove(upper, part): part isn't counted among those above it -/
theorem cs_isAbove {r k : Nat} (hC : Ca n dy g a) (hI : Inv a) (hr : (r : Int) < a 53 5) (hk : (k : Int) < a 53 5) (hrk : r ≠ k) (h : (abvI (a 60) r k = 0 → P (some (I_ 0)) n (W0 dy) g) ∧ (abvI (a 60) r k = 1 → P (some (I_ 1)) n (W0 dy) g)) : Runs miX11_isAbove d [.ref (g 3 r).toNat, .ref (g 3 k).toNat] n (W0 dy) g P := by
  obtain ⟨dp, hD⟩ := hI.dp
  have hN := hI.1.2
  have key : ∀ (f j : Nat), dp j = f → (j : Int) < a 53 5 → r ≠ j → ((abvI (a 60) r j = 0 → P (some (I_ 0)) n (W0 dy) g) ∧ (abvI (a 60) r j = 1 → P (some (I_ 1)) n (W0 dy) g)) → V miX11_isAbove d 5 [(0, .ref (g 3 r).toNat), (1, .ref (g 3 k).toNat), (2, .ref ((g (g 3 j).toNat 3).toNat))] [] n (W0 dy) g 0 0 P := by
    intro f
    induction f with
    | zero =>
      intro j hf hj hrj hP
      obtain ⟨q1, q2, q3, q4⟩ := hD j hj
      obtain ⟨u1, u2⟩ := above_b hC hI hj
      have c : a 60 j < 0 := by
        by_cases c : a 60 j < 0
        · exact c
        · have := q4 (by omega); omega
      have e0 : abv (a 60) r 60 j = false := by rw [abv_eq hD hN hj, if_neg (fun z : j = r => hrj z.symm), if_pos c]
      have e : abvI (a 60) r j = 0 := by unfold abvI; rw [e0]; rfl
      rw [u1 c]
      exact bX11_isAbove_5 hC.1 ⟨fun _ => hP.1 e, fun q => by omega⟩
    | succ f ih =>
      intro j hf hj hrj hP
      obtain ⟨q1, q2, q3, q4⟩ := hD j hj
      obtain ⟨u1, u2⟩ := above_b hC hI hj
      have c : 0 ≤ a 60 j := by
        by_cases c : a 60 j < 0
        · have := q3 c; omega
        · omega
      obtain ⟨v1, v2, v3, v4, v5⟩ := u2 c
      have e0 : abv (a 60) r 60 j = abv (a 60) r 60 (a 60 j).toNat := by rw [abv_eq hD hN hj, if_neg (fun z : j = r => hrj z.symm), if_neg (show ¬ a 60 j < 0 by omega)]
      have e : abvI (a 60) r j = abvI (a 60) r (a 60 j).toNat := by unfold abvI; rw [e0]
      rw [e] at hP
      rw [v2]
      refine bX11_isAbove_5 hC.1 ⟨fun q => by omega, fun _ => ⟨fun q => ⟨(hC.2.2.2.1 _ v1).ob v5, ih _ (by have := q4 c; omega) v1 (fun z => q (by rw [z])) hP⟩, fun q => ?_⟩⟩
      have : (a 60 j).toNat = r := (hC.ne v1 hr).mp q
      have e1 : abv (a 60) r 60 r = true := by rw [abv_eq hD hN hr, if_pos rfl]
      refine hP.2 ?_
      unfold abvI
      rw [this, e1]; rfl
  exact wX11_isAbove hC.1 ⟨(hC.2.2.2.1 k hk).pt (hI.2.2.1 k hk).2, key _ k rfl hk hrk h⟩
theorem cs_comeOff {k : Nat} (hC : Ca n dy g a) (hI : Inv a) (hk : (k : Int) < a 53 5) (ho : 0 ≤ a 60 k) (h : ∀ g', (∀ i q, g' i q = up2 (up2 (up2 (up2 g (g 3 (a 60 k).toNat).toNat (if a 61 k = 0 then 14 else 15) 0) (g 3 k).toNat 3 0) (g 3 k).toNat 4 (-1)) (g 3 k).toNat 5 0 i q) → P none n (W0 dy) g') : Runs miX2_comeOff (d + 1) [.ref (g 3 k).toNat] n (W0 dy) g P := by
  have hp := (hC.2.2.2.1 k hk).pt (hI.2.2.1 k hk).2
  obtain ⟨v1, v2, v3, v4, v5⟩ := (above_b hC hI hk).2 ho
  have e4 := (hC.known hk).1.2.1
  have hob := (hC.2.2.2.1 _ v1).ob v5
  have ha : a 61 k = 0 ∨ a 61 k = 1 := by
    rcases ((hI.2.2.1 k hk).1.2.2.1 ho).2.2 with c | c
    · exact Or.inl c.1
    · exact Or.inr c.1
  refine wX2_comeOff hC.1 ⟨hp, fun q => by omega, fun _ => ?_⟩
  rw [v2, e4]
  refine ⟨hob, wX6_bear hC.1 ⟨by omega, fun c => ⟨hob, fun _ => bX2_comeOff_19 hC.1 ⟨hp, ?_⟩, fun q => by omega⟩, fun c => ⟨hob, fun _ => bX2_comeOff_19 hC.1 ⟨hp, ?_⟩, fun q => by omega⟩⟩⟩
  · exact h _ (fun i q => by rw [if_neg c]; rfl)
  · exact h _ (fun i q => by rw [if_pos c]; rfl)
end Class1
