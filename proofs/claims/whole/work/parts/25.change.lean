/-! THE CLASS'S CELLS: what each change does to the relation -/
def Kr (g g' : Hp) : Prop := ∀ i q, (i = 0 ∨ (53 ≤ i ∧ i ≤ 99)) → g' i q = g i q
theorem Kr.refl (g : Hp) : Kr g g := fun _ _ _ => rfl
theorem Kr.up {g g' : Hp} (h : Kr g g') {c k : Nat} {x : Int} (hc : c ≠ 0 ∧ (c < 53 ∨ 99 < c)) : Kr g (up2 g' c k x) := fun i q hi => (up2_i (by omega)).trans (h i q hi)
theorem Kr.trans {g g' g'' : Hp} (h : Kr g g') (h' : Kr g' g'') : Kr g g'' := fun i q hi => (h' i q hi).trans (h i q hi)
theorem Ca.mk' {n n' : Nat} {dy dy' : Nat → Shp} {g g' a a' : Hp} (hC : Ca n dy g a) (hn : n ≤ n') (h0 : g' 1 2 = a' 53 5 ∧ g' 1 3 = a' 53 0) (hg : ∀ i q, ((i = 1 ∧ q = 11) ∨ i = 2 ∨ i = 23 ∨ i = 36 ∨ (i = 37 ∧ q = 1) ∨ i = 38 ∨ (41 ≤ i ∧ i ≤ 52)) → g' i q = g i q) (ha : a' 53 26 = a 53 26 ∧ a' 53 29 = a 53 29 ∧ ∀ i q, (i = 54 ∨ i = 55 ∨ i = 56 ∨ i = 77 ∨ i = 78) → a' i q = a i q) (hp : ∀ k : Nat, (k : Int) < a' 53 5 → CP n' dy' g' a' k) : Ca n' dy' g' a' := by
  obtain ⟨c0, ⟨c1, c2⟩, c3, c4, ⟨c5, c6⟩, c7, c8, c9⟩ := hC
  obtain ⟨a1, a2, a3⟩ := ha
  refine ⟨by omega, h0, fun t ht => ?_, hp, ⟨?_, fun i hi => ?_⟩, ?_, fun i hi hj => ?_, fun p hp' => by rw [hg 23 p (by omega)]; exact c9 p hp'⟩
  · have d := c3 t ht
    unfold CT at d ⊢
    rw [hg 2 t (by omega), hg (41 + 2 * t) 0 (by omega), hg (41 + 2 * t) 1 (by omega), a3 55 t (by omega), a3 54 t (by omega)]
    refine ⟨d.1, ?_⟩
    rcases d.2 with e | ⟨e1, e2, e3, e4⟩
    · exact Or.inl e
    · exact Or.inr ⟨e1, e2, e3, fun q hq => by rw [hg (42 + 2 * t) q (by omega), a3 56 _ (by omega)]; exact e4 q hq⟩
  · rw [hg 1 11 (by omega), a1]; exact c5
  · rw [hg 36 i (by omega), a3 77 i (by omega)]; exact c6 i (by omega)
  · rw [hg 37 1 (by omega), a2]; exact c7
  · rw [hg 38 i (by omega), a3 78 i (by omega)]; exact c8 i (by omega) hj
section Changes
variable {n : Nat} {dy : Nat → Shp} {g a : Hp}
theorem Ca.st (hC : Ca n dy g a) (w : Int) : Ca n dy (up2 g 1 3 w) (up2 a 53 0 w) := by
  refine hC.mk' (Nat.le_refl _) ⟨hC.2.1.1, rfl⟩ (fun i q h => ?_) ⟨rfl, rfl, fun i q h => up2_i (by omega)⟩ (fun k hk => ?_)
  · unfold up2; rw [if_neg (by omega)]
  · have hp := hC.2.2.2.1 k hk
    have hb : 100 ≤ g 3 k ∧ g 3 k < n := hp.1
    exact CQ.cong (a := up2 a 53 0 w) (g3 := g 3) (u := fun j q => g (g 3 j).toNat q) hp (Nat.le_refl _) rfl rfl (fun j _ => rfl) (fun q _ => up2_i (g := g) (i := 1) (j := (g 3 k).toNat) (by omega))
theorem Ca.st2 (hC : Ca n dy g a) (v w : Int) : Ca n dy (up2 g 1 3 w) (up2 (up2 a 53 0 v) 53 0 w) := by rw [up2_up]; exact hC.st w
/-- the cells of parts have changed as u says, and nothing else but the status -/
theorem Ca.pt {g' a' : Hp} {u : Nat → Nat → Int} (hC : Ca n dy g a) (h5 : a' 53 5 = a 53 5) (h0 : g' 1 2 = g 1 2 ∧ g' 1 3 = a' 53 0) (hg : ∀ i q, i < 100 → i ≠ 1 → g' i q = g i q) (hg1 : g' 1 11 = g 1 11) (ha : a' 53 26 = a 53 26 ∧ a' 53 29 = a 53 29 ∧ ∀ i q, (i = 54 ∨ i = 55 ∨ i = 56 ∨ i = 77 ∨ i = 78) → a' i q = a i q) (hu : ∀ k : Nat, (k : Int) < a 53 5 → ∀ q, g' (g 3 k).toNat q = u k q) (hp : ∀ k : Nat, (k : Int) < a 53 5 → CQ n dy (g 3) u a' k) : Ca n dy g' a' := by
  have e3 : g' 3 = g 3 := funext fun q => hg 3 q (by omega) (by omega)
  refine hC.mk' (Nat.le_refl _) ⟨by rw [h0.1, h5]; exact hC.2.1.1, h0.2⟩ (fun i q h => ?_) ha (fun k hk => ?_)
  · by_cases c : i = 1
    · have : q = 11 := by omega
      subst c this; exact hg1
    · exact hg i q (by omega) c
  · rw [h5] at hk
    have := hp k hk
    unfold CP
    rw [e3]
    exact CQ.cong this (Nat.le_refl _) rfl rfl (fun j _ => rfl) (fun q _ => hu k hk q)
theorem Ca.cell (hC : Ca n dy g a) {k : Nat} (hk : (k : Int) < a 53 5) : (100 ≤ g 3 k ∧ g 3 k < n) := (hC.2.2.2.1 k hk).1
theorem Ca.ne (hC : Ca n dy g a) {j k : Nat} (hj : (j : Int) < a 53 5) (hk : (k : Int) < a 53 5) : (g 3 j).toNat = (g 3 k).toNat ↔ j = k := ⟨fun e => CP.inj (hC.2.2.2.1 j hj) (hC.2.2.2.1 k hk) e, fun e => by rw [e]⟩
theorem CQ.re {g3 : Nat → Int} {u u' : Nat → Nat → Int} {a' : Hp} {k : Nat} (h : CQ n dy g3 u a k) (hs : a' 57 k = a 57 k ∧ a' 63 k = a 63 k ∧ a' 59 k = a 59 k ∧ a' 58 k = a 58 k) (hm : ∀ w, mdl a' k w = mdl a k w) (hu : ∀ q, (q < 3 ∨ q = 10 ∨ q = 11) → u' k q = u k q) (hpl : a 57 k = 4 → u' k 12 = u k 12 ∧ u' k 13 = u k 13) (h345 : u' k 3 = rfx g3 (a' 60 k) ∧ u' k 4 = a' 61 k ∧ u' k 5 = a' 62 k) (hrod : (a 57 k = 2 ∨ a 57 k = 3) → (u' k 12 = a' 64 k ∧ u' k 13 = a' 65 k) ∧ u' k 14 = rfx g3 (a' 66 k) ∧ u' k 15 = rfx g3 (a' 67 k)) : CQ n dy g3 u' a' k := by
  obtain ⟨h1, ⟨h2, h3, h4⟩, h5, h6, h7, h8⟩ := h
  obtain ⟨s1, s2, s3, s4⟩ := hs
  unfold CQ
  rw [s1, s2, s3, s4, hm, hm, hm, hm, hu 0 (by omega), hu 1 (by omega), hu 2 (by omega), hu 10 (by omega), hu 11 (by omega)]
  refine ⟨h1, ⟨h2, h3, h4⟩, h345, h6, fun c => ⟨(h7 c).1, ⟨(h7 c).2.1.1, (h7 c).2.1.2.1, (hrod c).1.1, (hrod c).1.2⟩, (hrod c).2⟩, fun c => ?_⟩
  rw [(hpl c).1, (hpl c).2]
  exact h8 c
/-- what of part j's cell is known -/
theorem Ca.known (hC : Ca n dy g a) {j : Nat} (hj : (j : Int) < a 53 5) : (g (g 3 j).toNat 3 = rfx (g 3) (a 60 j) ∧ g (g 3 j).toNat 4 = a 61 j ∧ g (g 3 j).toNat 5 = a 62 j) ∧ ((a 57 j = 2 ∨ a 57 j = 3) → (g (g 3 j).toNat 12 = a 64 j ∧ g (g 3 j).toNat 13 = a 65 j) ∧ g (g 3 j).toNat 14 = rfx (g 3) (a 66 j) ∧ g (g 3 j).toNat 15 = rfx (g 3) (a 67 j)) := by
  obtain ⟨h1, h2, h5, h6, h7, h8⟩ := hC.2.2.2.1 j hj
  exact ⟨h5, fun c => ⟨(h7 c).2.1.2.2, (h7 c).2.2⟩⟩
/-- the thread of a part -/
theorem Ca.thr (hC : Ca n dy g a) {k : Nat} (hk : (k : Int) < a 53 5) (w : Int) : Ca n dy (up2 (up2 g (g 3 k).toNat 5 w) 1 3 0) (up2 (up2 a 53 0 0) 62 k w) := by
  have hb := hC.cell hk
  refine hC.pt (u := fun j q => if j = k ∧ q = 5 then w else g (g 3 j).toNat q) rfl ⟨up2_i (g := g) (by omega), rfl⟩ (fun i q h1 h2 => ?_) (up2_i (g := g) (by omega)) ⟨rfl, rfl, fun i q h => ?_⟩ (fun j hj q => ?_) (fun j hj => ?_)
  · unfold up2; rw [if_neg (by omega), if_neg (by omega)]
  · unfold up2; rw [if_neg (by omega), if_neg (by omega)]
  · have := hC.cell hj
    unfold up2
    rw [if_neg (by omega)]
    simp only [hC.ne hj hk]
  · obtain ⟨⟨c3, c4, c5⟩, c6⟩ := hC.known hj
    refine CQ.re (hC.2.2.2.1 j hj) ⟨rfl, rfl, rfl, rfl⟩ (fun _ => rfl) (fun q hq => if_neg (by omega)) (fun _ => ⟨if_neg (by omega), if_neg (by omega)⟩) ⟨?_, ?_, ?_⟩ (fun c => ⟨⟨?_, ?_⟩, ?_, ?_⟩)
    · exact (if_neg (by omega)).trans c3
    · exact (if_neg (by omega)).trans c4
    · show (if j = k ∧ 5 = 5 then w else g (g 3 j).toNat 5) = up2 (up2 a 53 0 0) 62 k w 62 j
      rw [up2_k]
      by_cases e : j = k
      · rw [if_pos ⟨e, rfl⟩, if_pos e]
      · rw [if_neg (by omega), if_neg e]; exact c5
    · exact (if_neg (by omega)).trans (c6 c).1.1
    · exact (if_neg (by omega)).trans (c6 c).1.2
    · exact (if_neg (by omega)).trans (c6 c).2.1
    · exact (if_neg (by omega)).trans (c6 c).2.2
/-- where a rod is tied -/
theorem Ca.tie (hC : Ca n dy g a) {k : Nat} (hk : (k : Int) < a 53 5) (hr : a 57 k = 2 ∨ a 57 k = 3) (v w : Int) {g' : Hp} (h5 : g' 1 2 = g 1 2 ∧ g' 1 3 = 0 ∧ g' 1 11 = g 1 11) (hg : ∀ i q, i ≠ 1 → g' i q = up2 (up2 g (g 3 k).toNat 12 v) (g 3 k).toNat 13 w i q) : Ca n dy g' (up2 (up2 (up2 a 53 0 0) 64 k v) 65 k w) := by
  have hb := hC.cell hk
  refine hC.pt (u := fun j q => if j = k ∧ q = 12 then v else if j = k ∧ q = 13 then w else g (g 3 j).toNat q) rfl ⟨h5.1, h5.2.1⟩ (fun i q h1 h2 => ?_) h5.2.2 ⟨rfl, rfl, fun i q h => ?_⟩ (fun j hj q => ?_) (fun j hj => ?_)
  · rw [hg i q h2]; unfold up2; rw [if_neg (by omega), if_neg (by omega)]
  · unfold up2; rw [if_neg (by omega), if_neg (by omega), if_neg (by omega)]
  · have := hC.cell hj
    rw [hg _ q (by omega)]
    unfold up2
    simp only [hC.ne hj hk]
    by_cases e : j = k ∧ q = 13
    · rw [if_pos e, if_neg (by omega), if_pos e]
    · rw [if_neg e, if_neg (c := j = k ∧ q = 13) e]
  · obtain ⟨⟨c3, c4, c5⟩, c6⟩ := hC.known hj
    refine CQ.re (hC.2.2.2.1 j hj) ⟨rfl, rfl, rfl, rfl⟩ (fun _ => rfl) (fun q hq => ?_) (fun c => ⟨?_, ?_⟩) ⟨?_, ?_, ?_⟩ (fun c => ⟨⟨?_, ?_⟩, ?_, ?_⟩)
    · show (if j = k ∧ q = 12 then v else if j = k ∧ q = 13 then w else g (g 3 j).toNat q) = g (g 3 j).toNat q
      rw [if_neg (by omega), if_neg (by omega)]
    · have e : j ≠ k := fun e => by rw [e] at c; omega
      show (if j = k ∧ 12 = 12 then v else if j = k ∧ 12 = 13 then w else g (g 3 j).toNat 12) = g (g 3 j).toNat 12
      rw [if_neg (by omega), if_neg (by omega)]
    · have e : j ≠ k := fun e => by rw [e] at c; omega
      show (if j = k ∧ 13 = 12 then v else if j = k ∧ 13 = 13 then w else g (g 3 j).toNat 13) = g (g 3 j).toNat 13
      rw [if_neg (by omega), if_neg (by omega)]
    · exact (if_neg (by omega)).trans ((if_neg (by omega)).trans c3)
    · exact (if_neg (by omega)).trans ((if_neg (by omega)).trans c4)
    · exact (if_neg (by omega)).trans ((if_neg (by omega)).trans c5)
    · show (if j = k ∧ 12 = 12 then v else if j = k ∧ 12 = 13 then w else g (g 3 j).toNat 12) = up2 (up2 (up2 a 53 0 0) 64 k v) 65 k w 64 j
      rw [up2_i (by omega), up2_k]
      by_cases e : j = k
      · rw [if_pos ⟨e, rfl⟩, if_pos e]
      · rw [if_neg (by omega), if_neg (by omega), if_neg e]; exact (c6 c).1.1
    · show (if j = k ∧ 13 = 12 then v else if j = k ∧ 13 = 13 then w else g (g 3 j).toNat 13) = up2 (up2 (up2 a 53 0 0) 64 k v) 65 k w 65 j
      rw [up2_k]
      by_cases e : j = k
      · rw [if_neg (by omega), if_pos ⟨e, rfl⟩, if_pos e]
      · rw [if_neg (by omega), if_neg (by omega), if_neg e]; exact (c6 c).1.2
    · exact (if_neg (by omega)).trans ((if_neg (by omega)).trans (c6 c).2.1)
    · exact (if_neg (by omega)).trans ((if_neg (by omega)).trans (c6 c).2.2)
/-- the links of parts: above, end, thread, left, right, as the reference's new state has them -/
theorem Ca.links (hC : Ca n dy g a) {g' a' : Hp} (h5 : g' 1 2 = g 1 2 ∧ g' 1 3 = a' 53 0 ∧ g' 1 11 = g 1 11) (hg : ∀ i q, i < 100 → i ≠ 1 → g' i q = g i q) (ha : ∀ i q, rl i q = true → (i < 60 ∨ 62 < i) → (i ≠ 53 ∨ q ≠ 0) → i ≠ 66 → i ≠ 67 → a' i q = a i q) (hu : ∀ j : Nat, (j : Int) < a 53 5 → ∀ q, (q < 3 ∨ (10 ≤ q ∧ q ≤ 13)) → g' (g 3 j).toNat q = g (g 3 j).toNat q) (hl : ∀ j : Nat, (j : Int) < a 53 5 → (g' (g 3 j).toNat 3 = rfx (g 3) (a' 60 j) ∧ g' (g 3 j).toNat 4 = a' 61 j ∧ g' (g 3 j).toNat 5 = a' 62 j) ∧ ((a 57 j = 2 ∨ a 57 j = 3) → g' (g 3 j).toNat 14 = rfx (g 3) (a' 66 j) ∧ g' (g 3 j).toNat 15 = rfx (g 3) (a' 67 j))) : Ca n dy g' a' := by
  have r : ∀ i, (54 ≤ i ∧ i ≤ 59 ∨ 63 ≤ i ∧ i ≤ 65 ∨ 68 ≤ i ∧ i ≤ 70 ∨ i = 77 ∨ i = 78) → ∀ q, a' i q = a i q := fun i hi q => ha i q (by unfold rl; rcases hi with h | h | h | h | h <;> simp <;> omega) (by omega) (by omega) (by omega) (by omega)
  refine hC.pt (u := fun j q => g' (g 3 j).toNat q) (ha 53 5 rfl (by omega) (by omega) (by omega) (by omega)) ⟨h5.1, h5.2.1⟩ hg h5.2.2 ⟨ha 53 26 rfl (by omega) (by omega) (by omega) (by omega), ha 53 29 rfl (by omega) (by omega) (by omega) (by omega), fun i q hi => r i (by omega) q⟩ (fun j hj q => rfl) (fun j hj => ?_)
  obtain ⟨⟨c3, c4, c5⟩, c6⟩ := hC.known hj
  have hm : ∀ w, mdl a' j w = mdl a j w := fun w => by
    unfold mdl
    rw [show a' 68 = a 68 from funext (r 68 (by omega)), show a' 69 = a 69 from funext (r 69 (by omega)), show a' 70 = a 70 from funext (r 70 (by omega))]
  refine CQ.re (hC.2.2.2.1 j hj) ⟨r 57 (by omega) j, r 63 (by omega) j, r 59 (by omega) j, r 58 (by omega) j⟩ hm (fun q hq => hu j hj q (by omega)) (fun _ => ⟨hu j hj 12 (by omega), hu j hj 13 (by omega)⟩) (hl j hj).1 (fun c => ⟨⟨?_, ?_⟩, (hl j hj).2 c⟩)
  · rw [r 64 (by omega)]; exact (hu j hj 12 (by omega)).trans (c6 c).1.1
  · rw [r 65 (by omega)]; exact (hu j hj 13 (by omega)).trans (c6 c).1.2
end Changes
