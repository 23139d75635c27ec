/-! THE CLASS: part, rodAt, status, suspect, swap -/
section Class4
variable {d n : Nat} {dy : Nat → Shp} {g a : Hp} {P : Pst}
theorem cs_status (hC : Ca n dy g a) (h : P (some (I_ (a 53 0))) n (W0 dy) g) : Runs miX11_status d [.ref 1] n (W0 dy) g P := wX11_status hC.1 (by rw [hC.2.1.2]; exact h)
theorem cs_part {x1 x2 : Int} (hC : Ca n dy g a) (hI : Inv a) (h1 : i3 x1) (h2 : i3 x2) (h : ∀ v a' g', opPart (up2 a 53 0 0) x1 x2 = (v, a') → Ca n dy g' a' → Kr g g' → P (some (I_ v)) n (W0 dy) g') : Runs miX11_part (d + 2) [.ref 1, I_ x1, I_ x2] n (W0 dy) g P := by
  have hn := hC.1
  have kr : ∀ w, Kr g (up2 g 1 3 w) := fun w => (Kr.refl g).up (by omega)
  refine wX11_part hn (cs_partAt hC hI h1 ⟨fun c => ?_, fun c1 c2 => ?_⟩)
  · refine bX11_part_5 hn ⟨fun q => absurd q (Nat.lt_irrefl 0), fun _ => wX11_none hn ⟨by decide, bX11_part_15 hn (h _ _ _ ?_ (hC.st2 0 2) (kr 2))⟩⟩
    unfold opPart; exact if_pos c
  · obtain ⟨k, rfl⟩ := exN c1
    have hk : (k : Int) < a 53 5 := c2
    have g1 : ¬ ((k : Int) < 0 ∨ a 53 5 ≤ (k : Int)) := by omega
    have bk : 0 < (g 3 k).toNat := by have := hC.cell hk; omega
    have no7 : (x2 < 0 ∨ 6 < x2) → Runs miX11_none (d + 1) [.ref 1, I_ 7] n (W0 dy) g (fun v n' S' g' => V miX11_part (d + 2) 32 [(0, .ref 1), (1, I_ (k : Int)), (2, I_ x2), (3, .ref (g 3 k).toNat)] (v.toList ++ []) n' S' g' 0 0 P) := fun c => by
      refine wX11_none hn ⟨by decide, bX11_part_32 hn (h _ _ _ ?_ (hC.st2 0 7) (kr 7))⟩
      unfold opPart; exact (if_neg g1).trans (if_pos c)
    refine bX11_part_5 hn ⟨fun _ => ⟨h2, fun q => no7 (Or.inl q), fun q => ⟨fun q2 => ?_, fun q2 => no7 (Or.inr q2)⟩⟩, fun q => absurd q (Nat.ne_of_gt bk)⟩
    have g2 : ¬ (x2 < 0 ∨ 6 < x2) := by omega
    have hC0 := hC.st 0
    have hI0 : Inv (up2 a 53 0 0) := hI.st 0
    have hk0 : (k : Int) < (up2 a 53 0 0) 53 5 := hk
    have pk := (hC0.2.2.2.1 _ hk0).pt (hI0.2.2.1 _ hk0).2
    obtain ⟨⟨c3, c4, c5⟩, -⟩ := hC0.known hk0
    have c1' : (up2 g 1 3 0) ((up2 g 1 3 0) 3 k).toNat 1 = a 57 k := (hC0.2.2.2.1 _ hk0).2.1.2.1
    have c2' : (up2 g 1 3 0) ((up2 g 1 3 0) 3 k).toNat 2 = a 63 k := (hC0.2.2.2.1 _ hk0).2.1.2.2
    obtain ⟨u1, u2⟩ := above_b hC0 hI0 hk0
    have pos : ∀ v : Int, v = (if x2 = 0 then a 57 k else if x2 = 1 then a 63 k else if x2 = 2 then a 60 k else if x2 = 3 then a 61 k else if x2 = 4 then a 62 k else if x2 = 5 then hgt (a 60) (a 62) 60 k else ((top (a 60) 60 k : Nat) : Int)) → V miX11_part (d + 2) 43 [(0, .ref 1), (1, I_ (k : Int)), (2, I_ x2), (3, .ref (g 3 k).toNat)] [I_ v] n (W0 dy) (up2 g 1 3 0) 0 0 P := fun v e => by
      refine bX11_part_43 hn (h _ _ _ ?_ hC0 (kr 0))
      unfold opPart
      rw [e]
      exact (if_neg g1).trans (if_neg g2)
    clear no7 g1 g2 h
    refine wX11_partTold hn ⟨h2, fun q3 => cs_topOf hC0 hI0 hk0 ?_, fun q3 => ⟨pk, ?_⟩, fun q3 => ⟨pk, ?_⟩, fun q3 => ⟨pk, fun q4 => ?_, fun q4 => ?_⟩, fun q3 => ⟨pk, fun q4 => ?_, fun q4 => ?_⟩, fun q3 => ⟨pk, ?_⟩, fun q3 => cs_heightOf hC0 hI0 hk0 ?_⟩
    · have ht : ((top (a 60) 60 k : Nat) : Int) < a 53 5 := by
        obtain ⟨dp, hD⟩ := hI.dp
        exact top_lt hD 60 k hk
      refine bX11_partTold_99 hn ⟨(hC0.2.2.2.1 _ ht).pt (hI0.2.2.1 _ ht).2, ?_⟩
      have e0 : (up2 g 1 3 0) ((up2 g 1 3 0) 3 (top (a 60) 60 k)).toNat 0 = ((top (a 60) 60 k : Nat) : Int) := (hC0.2.2.2.1 _ ht).2.1.1
      refine pos _ ?_
      rw [if_neg (by omega), if_neg (by omega), if_neg (by omega), if_neg (by omega), if_neg (by omega), if_neg (by omega)]
      exact e0
    · exact pos _ (by rw [if_pos q3]; exact c1')
    · exact pos _ (by rw [if_neg (by omega), if_pos q3]; exact c2')
    · have z : 0 ≤ a 60 k := by
        by_cases z : a 60 k < 0
        · have := u1 z
          have q4 : 0 < ((up2 g 1 3 0) ((up2 g 1 3 0) 3 k).toNat 3).toNat := q4
          omega
        · omega
      obtain ⟨v1, v2, v3, v4, v5⟩ := u2 z
      have q5 : (up2 g 1 3 0) ((up2 g 1 3 0) 3 k).toNat 3 = (up2 g 1 3 0) 3 (a 60 k).toNat := v2
      have e0 : (up2 g 1 3 0) ((up2 g 1 3 0) 3 (a 60 k).toNat).toNat 0 = (((a 60 k).toNat : Nat) : Int) := (hC0.2.2.2.1 _ v1).2.1.1
      show Ob n (W0 dy) ((up2 g 1 3 0) ((up2 g 1 3 0) 3 k).toNat 3).toNat 5 ∧ _
      refine ⟨by rw [q5]; exact (hC0.2.2.2.1 _ v1).ob v5, pos _ ?_⟩
      show (up2 g 1 3 0) ((up2 g 1 3 0) ((up2 g 1 3 0) 3 k).toNat 3).toNat 0 = _
      rw [q5, e0, if_neg (by omega), if_neg (by omega), if_pos q3]
      omega
    · have z : a 60 k < 0 := by
        by_cases z : a 60 k < 0
        · exact z
        · obtain ⟨v1, v2, v3, v4, v5⟩ := u2 (show 0 ≤ a 60 k by omega)
          have q4 : ((up2 g 1 3 0) ((up2 g 1 3 0) 3 k).toNat 3).toNat = 0 := q4
          rw [v2] at q4
          omega
      have := (hI.2.2.1 k hk).1.1
      exact pos _ (by rw [if_neg (by omega), if_neg (by omega), if_pos q3]; omega)
    · exact pos _ (by rw [if_neg (by omega), if_neg (by omega), if_neg (by omega), if_pos q3]; exact c4)
    · have z : a 60 k < 0 := by
        by_cases z : a 60 k < 0
        · exact z
        · obtain ⟨v1, v2, v3, v4, v5⟩ := u2 (show 0 ≤ a 60 k by omega)
          have q4 : ((up2 g 1 3 0) ((up2 g 1 3 0) 3 k).toNat 3).toNat = 0 := q4
          rw [v2] at q4
          omega
      have := ((hI.2.2.1 k hk).1.2.1 z).1
      exact pos _ (by rw [if_neg (by omega), if_neg (by omega), if_neg (by omega), if_pos q3]; omega)
    · exact pos _ (by rw [if_neg (by omega), if_neg (by omega), if_neg (by omega), if_neg (by omega), if_pos q3]; exact c5)
    · refine bX11_partTold_94 hn (pos _ ?_)
      rw [if_neg (by omega), if_neg (by omega), if_neg (by omega), if_neg (by omega), if_neg (by omega), if_pos q3]
      rfl
theorem cs_rodAt {x1 x2 : Int} (hC : Ca n dy g a) (hI : Inv a) (h1 : i3 x1) (h2 : i3 x2) (h : ∀ v a' g', opRodAt a x1 x2 = (v, a') → Ca n dy g' a' → Kr g g' → P (some (L_ v)) n (W0 dy) g') : Runs miX11_rodAt (d + 2) [.ref 1, I_ x1, I_ x2] n (W0 dy) g P := by
  have hn := hC.1
  have kr : ∀ w, Kr g (up2 g 1 3 w) := fun w => (Kr.refl g).up (by omega)
  have hb := rodI_b a x1
  refine wX11_rodAt hn (cs_rodGiven hC hI h1 ⟨fun c => ?_, fun c => ?_⟩)
  · exact bX11_rodAt_5 hn ⟨fun q => absurd q (Nat.lt_irrefl 0), fun _ => h _ _ _ (by unfold opRodAt; exact if_pos c) (hC.st _) (kr _)⟩
  · obtain ⟨⟨b1, b2⟩, b3⟩ := hb.2 c
    have g1 : ¬ 0 < rodI a x1 := by omega
    clear hb c
    obtain ⟨k, rfl⟩ := exN b1
    have hk : (k : Int) < a 53 5 := b2
    have b3 : a 57 k = 2 ∨ a 57 k = 3 := b3
    have bk : 0 < (g 3 k).toNat := by have := hC.cell hk; omega
    have no7 : (x2 < 0 ∨ 5 < x2) → Runs miX11_none (d + 1) [.ref 1, I_ 7] n (W0 dy) (up2 g 1 3 0) (fun v n' S' g' => V miX11_rodAt (d + 2) 29 [(0, .ref 1), (1, I_ (k : Int)), (2, I_ x2), (3, .ref (g 3 k).toNat)] (v.toList ++ []) n' S' g' 0 0 P) := fun q => by
      refine wX11_none hn ⟨by decide, bX11_rodAt_29 hn ⟨by decide, ?_⟩⟩
      refine h _ _ _ ?_ ((hC.st 0).st 7) ((kr 0).up (by omega))
      unfold opRodAt
      exact (if_neg g1).trans (if_pos q)
    have hC0 := hC.st 0
    have hk0 : (k : Int) < (up2 a 53 0 0) 53 5 := hk
    have ob := (hC0.2.2.2.1 _ hk0).ob b3
    obtain ⟨-, ⟨w1, w2, w3, w4⟩, w5, w6⟩ := (hC0.2.2.2.1 _ hk0).2.2.2.2.1 b3
    have PIk := (hI.2.2.1 k hk).1
    have hl := PIk.2.2.2.1
    have hr := PIk.2.2.2.2
    have hl1 := hl.1; have hl2 := hl.2.1; have hr1 := hr.1; have hr2 := hr.2.1
    clear hl hr PIk
    refine bX11_rodAt_5 hn ⟨fun _ => ⟨h2, fun q => no7 (Or.inl q), fun q => ⟨fun q2 => ?_, fun q2 => no7 (Or.inr q2)⟩⟩, fun q => absurd q (Nat.ne_of_gt bk)⟩
    have pos : ∀ v : Int, v = (if x2 = 0 then a 59 k else if x2 = 1 then a 58 k else if x2 = 2 then a 64 k else if x2 = 3 then a 65 k else if x2 = 4 then a 66 k else a 67 k) → V miX11_rodAt (d + 2) 36 [(0, .ref 1), (1, I_ (k : Int)), (2, I_ x2), (3, .ref (g 3 k).toNat)] [L_ v] n (W0 dy) (up2 g 1 3 0) 0 0 P := fun v e => by
      refine bX11_rodAt_36 hn (h _ _ _ ?_ hC0 (kr 0))
      unfold opRodAt
      rw [e]
      exact (if_neg g1).trans (if_neg (by omega))
    have side : ∀ (y : Int), (-1 ≤ y ∧ y < a 53 5) → y = (if x2 = 0 then a 59 k else if x2 = 1 then a 58 k else if x2 = 2 then a 64 k else if x2 = 3 then a 65 k else if x2 = 4 then a 66 k else a 67 k) → V miX11_rodTold (d + 1) 70 [(0, .ref (g 3 k).toNat), (1, I_ x2)] [.ref (rfx (g 3) y).toNat] n (W0 dy) (up2 g 1 3 0) 0 0 (fun v n' S' g' => V miX11_rodAt (d + 2) 36 [(0, .ref 1), (1, I_ (k : Int)), (2, I_ x2), (3, .ref (g 3 k).toNat)] (v.toList ++ []) n' S' g' 0 0 P) := fun y hy e => by
      by_cases z : y < 0
      · rw [show rfx (g 3) y = 0 from if_pos z]
        exact bX11_rodTold_70 hn ⟨fun q9 => absurd q9 (Nat.lt_irrefl 0), fun _ => pos _ (by rw [← e]; omega)⟩
      · have hz : ((y.toNat : Nat) : Int) < (up2 a 53 0 0) 53 5 := by show ((y.toNat : Nat) : Int) < a 53 5; omega
        have hc := hC.cell (k := y.toNat) hz
        have e0 : (up2 g 1 3 0) ((up2 g 1 3 0) 3 y.toNat).toNat 0 = ((y.toNat : Nat) : Int) := (hC0.2.2.2.1 _ hz).2.1.1
        rw [show rfx (g 3) y = g 3 y.toNat from if_neg z]
        refine bX11_rodTold_70 hn ⟨fun _ => ⟨(hC0.2.2.2.1 _ hz).pt ((hI.st 0).2.2.1 _ hz).2, pos _ (Eq.trans e0 (by rw [← e]; omega))⟩, fun q9 => by omega⟩
    clear no7 h g1
    refine wX11_rodTold hn ⟨h2, fun q3 => ⟨fun q4 => ⟨ob, ?_⟩, fun q4 => ⟨ob, ?_⟩⟩, fun q3 => ⟨ob, pos _ (by rw [if_pos q3]; exact w1)⟩, fun q3 => ⟨ob, pos _ (by rw [if_neg (by omega), if_pos q3]; exact w2)⟩, fun q3 => ⟨ob, pos _ (by rw [if_neg (by omega), if_neg (by omega), if_pos q3]; exact w3)⟩, fun q3 => ⟨ob, pos _ (by rw [if_neg (by omega), if_neg (by omega), if_neg (by omega), if_pos q3]; exact w4)⟩⟩
    · refine wX6_side hn ⟨by decide, fun _ => ⟨ob, ?_⟩, fun q9 => absurd q9 (by decide)⟩
      have e9 : (up2 g 1 3 0) (g 3 k).toNat 15 = rfx (g 3) (a 67 k) := w6
      have w := side _ ⟨hr1, hr2⟩ (by rw [if_neg (by omega), if_neg (by omega), if_neg (by omega), if_neg (by omega), if_neg (by omega)])
      rw [← e9] at w
      exact w
    · refine wX6_side hn ⟨by decide, fun q9 => absurd rfl q9, fun _ => ⟨ob, ?_⟩⟩
      have e9 : (up2 g 1 3 0) (g 3 k).toNat 14 = rfx (g 3) (a 66 k) := w5
      have w := side _ ⟨hl1, hl2⟩ (by rw [if_neg (by omega), if_neg (by omega), if_neg (by omega), if_neg (by omega), if_pos q4])
      rw [← e9] at w
      exact w
/-! swap -/
def swA (a : Hp) (k : Nat) : Hp := fun i q => if i = 66 ∧ q = k then a 67 k else if i = 67 ∧ q = k then a 66 k else if i = 61 ∧ 0 ≤ a 66 k ∧ q = (a 66 k).toNat then 1 else if i = 61 ∧ 0 ≤ a 67 k ∧ q = (a 67 k).toNat then 0 else a i q
theorem opSwap_eq {x : Nat} (h0 : rodI a (x : Int) = 0) : opSwap a (x : Int) = (1, swA (up2 a 53 0 0) x) := by
  unfold opSwap
  rw [if_neg (by omega)]
  have e : ∀ (b c : Hp), (∀ i q, b i q = c i q) → ((1, b) : Int × Hp) = (1, c) := fun b c hh => by rw [show b = c from funext fun i => funext fun q => hh i q]
  show (if a 67 x < 0 then (if a 66 x < 0 then _ else _) else (if a 66 x < 0 then _ else _)) = _
  have e66 : up2 a 53 0 0 66 x = a 66 x := rfl
  have e67 : up2 a 53 0 0 67 x = a 67 x := rfl
  by_cases c7 : a 67 x < 0
  · rw [if_pos c7]
    by_cases c6 : a 66 x < 0
    · rw [if_pos c6]
      refine e _ _ fun i q => ?_
      unfold sw0 swA
      rw [e66, e67]
      simp only [up2_ap (g := up2 _ _ _ _), up2_ap (g := up2 a 53 0 0)]
      repeat' split
      all_goals first | rfl | omega
    · rw [if_neg c6]
      refine e _ _ fun i q => ?_
      unfold sw0 swA
      rw [e66, e67]
      show up2 (up2 (up2 (up2 a 53 0 0) 66 x (a 67 x)) 67 x (a 66 x)) 61 (a 66 x).toNat 1 i q = _
      simp only [up2_ap (g := up2 _ _ _ _), up2_ap (g := up2 a 53 0 0)]
      repeat' split
      all_goals first | rfl | omega
  · rw [if_neg c7]
    by_cases c6 : a 66 x < 0
    · rw [if_pos c6]
      refine e _ _ fun i q => ?_
      unfold sw0 swA
      rw [e66, e67]
      show up2 (up2 (up2 (up2 a 53 0 0) 66 x (a 67 x)) 67 x (a 66 x)) 61 (a 67 x).toNat 0 i q = _
      simp only [up2_ap (g := up2 _ _ _ _), up2_ap (g := up2 a 53 0 0)]
      repeat' split
      all_goals first | rfl | omega
    · rw [if_neg c6]
      refine e _ _ fun i q => ?_
      unfold sw0 swA
      rw [e66, e67]
      show up2 (up2 (up2 (up2 (up2 a 53 0 0) 66 x (a 67 x)) 67 x (a 66 x)) 61 (a 67 x).toNat 0) 61 (a 66 x).toNat 1 i q = _
      simp only [up2_ap (g := up2 _ _ _ _), up2_ap (g := up2 a 53 0 0)]
      repeat' split
      all_goals first | rfl | omega
theorem swA_rows {x : Nat} : (∀ j, swA a x 61 j = if 0 ≤ a 66 x ∧ j = (a 66 x).toNat then 1 else if 0 ≤ a 67 x ∧ j = (a 67 x).toNat then 0 else a 61 j) ∧ (∀ j, swA a x 66 j = if j = x then a 67 x else a 66 j) ∧ (∀ j, swA a x 67 j = if j = x then a 66 x else a 67 j) ∧ ∀ i q, i ≠ 61 → i ≠ 66 → i ≠ 67 → swA a x i q = a i q := by
  unfold swA
  refine ⟨fun j => ?_, fun j => ?_, fun j => ?_, fun i q h1 h2 h3 => ?_⟩
  · rw [if_neg (by omega), if_neg (by omega)]; simp
  · simp
  · simp
  · rw [if_neg (by omega), if_neg (by omega), if_neg (by omega), if_neg (by omega)]
theorem Inv.swap (hI : Inv a) {x : Nat} (hx : (x : Int) < a 53 5) (hk : a 57 x = 2 ∨ a 57 x = 3) : Inv (swA a x) := by
  obtain ⟨r1, r6, r7, r9⟩ := @swA_rows a x
  have e0 : swA a x 60 = a 60 := funext fun q => r9 60 q (by omega) (by omega) (by omega)
  have e2 : swA a x 62 = a 62 := funext fun q => r9 62 q (by omega) (by omega) (by omega)
  refine hI.dyn (fun i q _ h1 _ h6 h7 => r9 i q (by omega) h6 h7) (by rw [e0, e2]; exact PR_swap hx r1 r6 r7 hI.pr) (fun j hj c => ?_) (by rw [e0]; exact hI.2.2.2.1)
  have : j ≠ x := fun e9 => by rw [e9] at c; omega
  rw [r6, r7, if_neg this, if_neg this]
  exact ⟨rfl, rfl⟩
theorem Ca.swap (hC : Ca n dy g a) (hI : Inv a) {x : Nat} (hx : (x : Int) < a 53 5) (hk : a 57 x = 2 ∨ a 57 x = 3) {g' : Hp} (h5 : g' 1 2 = g 1 2 ∧ g' 1 3 = a 53 0 ∧ g' 1 11 = g 1 11) (hg : ∀ i q, i < 100 → i ≠ 1 → g' i q = g i q)
    (hu : ∀ j : Nat, (j : Int) < a 53 5 → ∀ q, g' (g 3 j).toNat q = if j = x ∧ q = 14 then g (g 3 x).toNat 15 else if j = x ∧ q = 15 then g (g 3 x).toNat 14 else if q = 4 ∧ 0 ≤ a 66 x ∧ j = (a 66 x).toNat then 1 else if q = 4 ∧ 0 ≤ a 67 x ∧ j = (a 67 x).toNat then 0 else g (g 3 j).toNat q) : Ca n dy g' (swA a x) := by
  obtain ⟨r1, r6, r7, r9⟩ := @swA_rows a x
  obtain ⟨-, kl, kr⟩ := (hC.known hx).2 hk
  refine hC.links ⟨h5.1, h5.2.1.trans (r9 53 0 (by omega) (by omega) (by omega)).symm, h5.2.2⟩ hg (fun i q _ h1 _ h6 h7 => r9 i q (by omega) h6 h7) (fun j hj q hq => ?_) (fun j hj => ⟨⟨?_, ?_, ?_⟩, fun c => ⟨?_, ?_⟩⟩)
  · rw [hu j hj q, if_neg (by omega), if_neg (by omega), if_neg (by omega), if_neg (by omega)]
  · rw [hu j hj 3, if_neg (by omega), if_neg (by omega), if_neg (by omega), if_neg (by omega), r9 60 j (by omega) (by omega) (by omega)]
    exact (hC.known hj).1.1
  · rw [hu j hj 4, r1 j, if_neg (by omega), if_neg (by omega)]
    simp only [true_and]
    rw [(hC.known hj).1.2.1]
  · rw [hu j hj 5, if_neg (by omega), if_neg (by omega), if_neg (by omega), if_neg (by omega), r9 62 j (by omega) (by omega) (by omega)]
    exact (hC.known hj).1.2.2
  · rw [hu j hj 14, r6 j]
    by_cases e : j = x
    · rw [if_pos ⟨e, rfl⟩, if_pos e]; exact kr
    · rw [if_neg (by omega), if_neg (by omega), if_neg (by omega), if_neg (by omega), if_neg e]
      exact ((hC.known hj).2 c).2.1
  · rw [hu j hj 15, r7 j]
    by_cases e : j = x
    · rw [if_neg (by omega), if_pos ⟨e, rfl⟩, if_pos e]; exact kl
    · rw [if_neg (by omega), if_neg (by omega), if_neg (by omega), if_neg (by omega), if_neg e]
      exact ((hC.known hj).2 c).2.2
end Class4
