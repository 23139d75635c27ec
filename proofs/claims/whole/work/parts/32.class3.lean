/-! THE CLASS: hang -/
section Class3
variable {d n : Nat} {dy : Nat → Shp} {g a : Hp} {P : Pst}
abbrev LH (x r : Nat) (x3 x4 : Int) (c5 c6 : Nat) : List (Nat × Value) := [(0, .ref 1), (1, I_ (x : Int)), (2, I_ (r : Int)), (3, I_ x3), (4, I_ x4), (5, .ref c5), (6, .ref c6), (7, .ref c6)]
/-- the links are written -/
theorem hang_end {x r : Nat} {x3 x4 : Int} (hC : Ca n dy g a) (hI : Inv a) (hx : (x : Int) < a 53 5) (hr : (r : Int) < a 53 5) (hxr : x ≠ r) (hrod : a 57 r = 2 ∨ a 57 r = 3) (e3 : x3 = 0 ∨ x3 = 1) (h4 : i3 x4) (h : ∀ g', Ca n dy g' (hgA (up2 a 53 0 0) x r x3 x4) → Kr g g' → P (some (I_ 1)) n (W0 dy) g') : ∀ g', (∀ i q, g' i q = up2 (up2 (up2 g (g 3 r).toNat (if x3 = 0 then 14 else 15) (((g 3 x).toNat : Nat) : Int)) (g 3 x).toNat 3 (((g 3 r).toNat : Nat) : Int)) (g 3 x).toNat 4 x3 i q) → V miX11_hang (d + 2) 138 (LH x r x3 x4 (g 3 x).toNat (g 3 r).toNat) [] n (W0 dy) g' 0 0 P := by
  intro g' hg'
  have bx := hC.cell hx
  have br := hC.cell hr
  have e1 : (((g 3 x).toNat : Nat) : Int) = g 3 x := Int.toNat_of_nonneg (by omega)
  have e2 : (((g 3 r).toNat : Nat) : Int) = g 3 r := Int.toNat_of_nonneg (by omega)
  refine bX11_hang_138 hC.1 ⟨(hC.2.2.2.1 _ hx).pt (hI.2.2.1 _ hx).2, h4, wX11_allows hC.1 (bX11_hang_149 hC.1 ⟨Or.inr rfl, ?_⟩)⟩
  have hg1 : ∀ q, g' 1 q = g 1 q := fun q => by
    rw [hg' 1 q]
    simp only [up2_ap]
    rw [if_neg (by omega), if_neg (by omega), if_neg (by omega)]
  refine h _ (Ca.hang (g := up2 g 1 3 0) (hC.st 0) (hI.st 0) hx hr hxr hrod e3 ⟨?_, rfl, ?_⟩ (fun i q hi => ?_)) (fun i q hi => ?_)
  · show up2 (up2 g' (g 3 x).toNat 5 x4) 1 3 0 1 2 = g 1 2
    rw [up2_k, if_neg (by omega), up2_i (by omega)]; exact hg1 2
  · show up2 (up2 g' (g 3 x).toNat 5 x4) 1 3 0 1 11 = g 1 11
    rw [up2_k, if_neg (by omega), up2_i (by omega)]; exact hg1 11
  · rw [up2_i hi, up2_ap, hg' i q, e1, e2]
    simp [up2_ap, hi]
  · rw [up2_i (by omega), up2_i (by omega), hg' i q]
    simp only [up2_ap]
    rw [if_neg (by omega), if_neg (by omega), if_neg (by omega)]
/-- what is asked last: does it hang, is the end free -/
theorem hang_96 {x r : Nat} {x3 x4 : Int} (hC : Ca n dy g a) (hI : Inv a) (hx : (x : Int) < a 53 5) (hr : (r : Int) < a 53 5) (hxr : x ≠ r) (hrod : a 57 r = 2 ∨ a 57 r = 3) (h3 : i3 x3) (e3 : x3 = 0 ∨ x3 = 1) (h4 : i3 x4)
    (h8 : (0 ≤ a 60 x ∨ (x3 = 0 ∧ 0 ≤ a 66 r) ∨ (x3 ≠ 0 ∧ 0 ≤ a 67 r)) → P (some (I_ 0)) n (W0 dy) (up2 g 1 3 8))
    (h : ¬ (0 ≤ a 60 x ∨ (x3 = 0 ∧ 0 ≤ a 66 r) ∨ (x3 ≠ 0 ∧ 0 ≤ a 67 r)) → ∀ g', Ca n dy g' (hgA (up2 a 53 0 0) x r x3 x4) → Kr g g' → P (some (I_ 1)) n (W0 dy) g') : V miX11_hang (d + 2) 96 (LH x r x3 x4 (g 3 x).toNat (g 3 r).toNat) [I_ 0] n (W0 dy) g 0 0 P := by
  have hn := hC.1
  have bx := hC.cell hx
  have br := hC.cell hr
  have px := (hC.2.2.2.1 _ hx).pt (hI.2.2.1 _ hx).2
  have obr := (hC.2.2.2.1 _ hr).ob hrod
  have no8 : (0 ≤ a 60 x ∨ (x3 = 0 ∧ 0 ≤ a 66 r) ∨ (x3 ≠ 0 ∧ 0 ≤ a 67 r)) → Runs miX11_refuses (d + 1) [.ref 1, I_ 8] n (W0 dy) g (fun v n' S' g' => V miX11_hang (d + 2) 129 (LH x r x3 x4 (g 3 x).toNat (g 3 r).toNat) (v.toList ++ []) n' S' g' 0 0 P) := fun c => wX11_refuses hn ⟨by decide, bX11_hang_129 hn ⟨Or.inl rfl, h8 c⟩⟩
  obtain ⟨u1, u2⟩ := above_b hC hI hx
  refine bX11_hang_96 hn ⟨by decide, fun _ => ⟨px, fun q4 => no8 (Or.inl ?_), fun q4 => ⟨obr, ?_⟩⟩, fun q9 => absurd rfl q9⟩
  · by_cases z : a 60 x < 0
    · have := u1 z; omega
    · omega
  · have ox : a 60 x < 0 := by
      by_cases z : a 60 x < 0
      · exact z
      · have := u2 (by omega); omega
    clear u1 u2 q4
    obtain ⟨-, l1, l2⟩ := (hC.known hr).2 hrod
    have hl := (hI.2.2.1 r hr).1.2.2.2.1
    have hrt := (hI.2.2.1 r hr).1.2.2.2.2
    have hl2 := hl.2.1
    have hr2 := hrt.2.1
    clear hl hrt
    have fin : ((x3 = 0 → a 66 r < 0) ∧ (x3 = 1 → a 67 r < 0)) → V miX11_hang (d + 2) 120 (LH x r x3 x4 (g 3 x).toNat (g 3 r).toNat) [.ref 0] n (W0 dy) g 0 0 P := fun hf => by
      have hh := h (by omega)
      have last := hang_end (d := d) hC hI hx hr hxr hrod e3 h4 hh
      have p0 : 0 < (g 3 x).toNat := by omega
      exact bX11_hang_120 hn ⟨fun _ => ⟨obr, wX6_bear hn ⟨h3, fun c3 => ⟨obr, fun q => absurd q (Nat.ne_of_gt p0), fun _ => ⟨px, last _ (fun i q => by rw [if_neg c3])⟩⟩, fun c3 => ⟨obr, fun q => absurd q (Nat.ne_of_gt p0), fun _ => ⟨px, last _ (fun i q => by rw [if_pos c3])⟩⟩⟩⟩, fun q => absurd q (Nat.lt_irrefl 0)⟩
    refine wX6_side hn ⟨h3, fun c3 => ⟨obr, ?_⟩, fun c3 => ⟨obr, ?_⟩⟩
    · rw [l2]
      by_cases z : a 67 r < 0
      · rw [show rfx (g 3) (a 67 r) = 0 from if_pos z]
        exact fin ⟨fun e => absurd e c3, fun _ => z⟩
      · have hz := hC.cell (k := (a 67 r).toNat) (by omega)
        rw [show rfx (g 3) (a 67 r) = g 3 (a 67 r).toNat from if_neg z]
        exact bX11_hang_120 hn ⟨fun q => by omega, fun _ => no8 (Or.inr (Or.inr ⟨c3, by omega⟩))⟩
    · rw [l1]
      by_cases z : a 66 r < 0
      · rw [show rfx (g 3) (a 66 r) = 0 from if_pos z]
        exact fin ⟨fun _ => z, fun e => by omega⟩
      · have hz := hC.cell (k := (a 66 r).toNat) (by omega)
        rw [show rfx (g 3) (a 66 r) = g 3 (a 66 r).toNat from if_neg z]
        exact bX11_hang_120 hn ⟨fun q => by omega, fun _ => no8 (Or.inr (Or.inl ⟨c3, by omega⟩))⟩
theorem hang_79 {x r : Nat} {x3 x4 : Int} (hC : Ca n dy g a) (hI : Inv a) (hx : (x : Int) < a 53 5) (hr : (r : Int) < a 53 5) (hrod : a 57 r = 2 ∨ a 57 r = 3) (h3 : i3 x3) (e3 : x3 = 0 ∨ x3 = 1) (h4 : i3 x4)
    (h7 : (x4 < 1 ∨ 1000 < x4 ∨ abvI (a 60) x r = 1) → P (some (I_ 0)) n (W0 dy) (up2 g 1 3 7))
    (h8 : ¬ (x4 < 1 ∨ 1000 < x4 ∨ abvI (a 60) x r = 1) → (0 ≤ a 60 x ∨ (x3 = 0 ∧ 0 ≤ a 66 r) ∨ (x3 ≠ 0 ∧ 0 ≤ a 67 r)) → P (some (I_ 0)) n (W0 dy) (up2 g 1 3 8))
    (h : ¬ (x4 < 1 ∨ 1000 < x4 ∨ abvI (a 60) x r = 1) → ¬ (0 ≤ a 60 x ∨ (x3 = 0 ∧ 0 ≤ a 66 r) ∨ (x3 ≠ 0 ∧ 0 ≤ a 67 r)) → ∀ g', Ca n dy g' (hgA (up2 a 53 0 0) x r x3 x4) → Kr g g' → P (some (I_ 1)) n (W0 dy) g') : Runs miX11_isThread (d + 1) [I_ x4] n (W0 dy) g (fun v n' S' g' => V miX11_hang (d + 2) 79 (LH x r x3 x4 (g 3 x).toNat (g 3 r).toNat) (v.toList ++ []) n' S' g' 0 0 P) := by
  have hn := hC.1
  have no7 : (x4 < 1 ∨ 1000 < x4 ∨ abvI (a 60) x r = 1) → Runs miX11_refuses (d + 1) [.ref 1, I_ 7] n (W0 dy) g (fun v n' S' g' => V miX11_hang (d + 2) 105 (LH x r x3 x4 (g 3 x).toNat (g 3 r).toNat) (v.toList ++ []) n' S' g' 0 0 P) := fun c => wX11_refuses hn ⟨by decide, bX11_hang_105 hn ⟨Or.inl rfl, h7 c⟩⟩
  have bad4 : (x4 < 1 ∨ 1000 < x4) → V miX11_hang (d + 2) 79 (LH x r x3 x4 (g 3 x).toNat (g 3 r).toNat) [I_ 0] n (W0 dy) g 0 0 P := fun c => bX11_hang_79 hn ⟨by decide, fun _ => no7 (c.elim Or.inl (fun z => Or.inr (Or.inl z))), fun q => absurd rfl q⟩
  refine wX11_isThread hn ⟨h4, fun q => bad4 (Or.inl q), fun q => ⟨fun q2 => bad4 (Or.inr q2), fun q2 => ?_⟩⟩
  refine bX11_hang_79 hn ⟨by decide, fun q9 => absurd q9 (by decide), fun _ => ⟨fun q3 => no7 ?_, fun q3 => ?_⟩⟩
  · have e : r = x := (hC.ne hr hx).mp q3
    obtain ⟨dp, hD⟩ := hI.dp
    have e9 : abv (a 60) x 60 x = true := by rw [abv_eq hD hI.1.2 hx, if_pos rfl]
    right; right
    rw [e]; unfold abvI; rw [e9]; rfl
  · have hxr : x ≠ r := fun e => q3 (by rw [e])
    refine cs_isAbove hC hI hx hr hxr ⟨fun c => ?_, fun c => bX11_hang_96 hn ⟨by decide, fun q9 => absurd q9 (by decide), fun _ => no7 (Or.inr (Or.inr c))⟩⟩
    have g3 : ¬ (x4 < 1 ∨ 1000 < x4 ∨ abvI (a 60) x r = 1) := by omega
    exact hang_96 hC hI hx hr hxr hrod h3 e3 h4 (h8 g3) (h g3)
theorem cs_hang {x1 x2 x3 x4 : Int} (hC : Ca n dy g a) (hI : Inv a) (h1 : i3 x1) (h2 : i3 x2) (h3 : i3 x3) (h4 : i3 x4) (h : ∀ v a' g', opHang (up2 a 53 0 0) x1 x2 x3 x4 = (v, a') → Ca n dy g' a' → Kr g g' → P (some (I_ v)) n (W0 dy) g') : Runs miX11_hang (d + 2) [.ref 1, I_ x1, I_ x2, I_ x3, I_ x4] n (W0 dy) g P := by
  have hn := hC.1
  have kr : ∀ w, Kr g (up2 g 1 3 w) := fun w => (Kr.refl g).up (by omega)
  have bad : ∀ (r5 r6 : Nat), (x1 < 0 ∨ a 53 5 ≤ x1 ∨ x2 < 0 ∨ a 53 5 ≤ x2) → Runs miX11_refuses (d + 1) [.ref 1, I_ 2] n (W0 dy) g (fun v n' S' g' => V miX11_hang (d + 2) 29 [(0, .ref 1), (1, I_ x1), (2, I_ x2), (3, I_ x3), (4, I_ x4), (5, .ref r5), (6, .ref r6)] (v.toList ++ []) n' S' g' 0 0 P) := fun r5 r6 c => by
    refine wX11_refuses hn ⟨by decide, bX11_hang_29 hn ⟨Or.inl rfl, h _ _ _ ?_ (hC.st2 0 2) (kr 2)⟩⟩
    unfold opHang; exact if_pos c
  refine wX11_hang hn (cs_partAt hC hI h1 ⟨fun c => bX11_hang_5 hn (cs_partAt hC hI h2 ⟨fun c' => ?_, fun c1' c2' => ?_⟩), fun c1 c2 => bX11_hang_5 hn (cs_partAt hC hI h2 ⟨fun c' => ?_, fun c1' c2' => ?_⟩)⟩)
  · exact bX11_hang_12 hn ⟨fun _ => bad _ _ (by omega), fun q => by omega⟩
  · exact bX11_hang_12 hn ⟨fun _ => bad _ _ (by omega), fun q => by omega⟩
  · have hb := hC.cell (k := x1.toNat) (by omega)
    exact bX11_hang_12 hn ⟨fun q => by omega, fun _ => ⟨fun q => by omega, fun _ => bad _ _ (by omega)⟩⟩
  · clear bad
    obtain ⟨x, rfl⟩ := exN c1
    obtain ⟨r, rfl⟩ := exN c1'
    have hx : (x : Int) < a 53 5 := c2
    have hr : (r : Int) < a 53 5 := c2'
    clear c1 c1' c2 c2'
    have bx : 0 < (g 3 x).toNat := by have := hC.cell hx; omega
    have br : 0 < (g 3 r).toNat := by have := hC.cell hr; omega
    have k1 : g (g 3 r).toNat 1 = a 57 r := (hC.2.2.2.1 _ hr).2.1.2.1
    have g1 : ¬ ((x : Int) < 0 ∨ a 53 5 ≤ (x : Int) ∨ (r : Int) < 0 ∨ a 53 5 ≤ (r : Int)) := by omega
    show V miX11_hang (d + 2) 12 [(0, .ref 1), (1, I_ (x : Int)), (2, I_ (r : Int)), (3, I_ x3), (4, I_ x4), (5, .ref (g 3 x).toNat)] [.ref (g 3 r).toNat] n (W0 dy) g 0 0 P
    by_cases g2 : (a 57 r ≠ 2 ∧ a 57 r ≠ 3) ∨ (a 57 r = 3 ∧ (a 57 x = 2 ∨ a 57 x = 3))
    · have no5 : ∀ r7 : Nat, Runs miX11_refuses (d + 1) [.ref 1, I_ 5] n (W0 dy) g (fun v n' S' g' => V miX11_hang (d + 2) 64 [(0, .ref 1), (1, I_ (x : Int)), (2, I_ (r : Int)), (3, I_ x3), (4, I_ x4), (5, .ref (g 3 x).toNat), (6, .ref (g 3 r).toNat), (7, .ref r7)] (v.toList ++ []) n' S' g' 0 0 P) := fun r7 => by
        refine wX11_refuses hn ⟨by decide, bX11_hang_64 hn ⟨Or.inl rfl, h _ _ _ ?_ (hC.st2 0 5) (kr 5)⟩⟩
        unfold opHang; exact (if_neg g1).trans (if_pos g2)
      clear g1
      refine bX11_hang_12 hn ⟨fun q => absurd q (Nat.ne_of_gt bx), fun _ => ⟨fun _ => cs_asRod hC hI hr ⟨fun c => ?_, fun c => ?_⟩, fun q => absurd q (Nat.ne_of_gt br)⟩⟩
      · refine bX11_hang_35 hn ⟨fun q => absurd q (Nat.ne_of_gt br), fun _ => ⟨(hC.2.2.2.1 _ hr).ob c, fun q => by omega, fun q => cs_asRod hC hI hx ⟨fun c' => ?_, fun c' => by omega⟩⟩⟩
        exact bX11_hang_56 hn ⟨fun q => absurd q (Nat.ne_of_gt bx), fun _ => no5 _⟩
      · exact bX11_hang_35 hn ⟨fun _ => no5 _, fun q => absurd q (Nat.lt_irrefl 0)⟩
    · have hrod : a 57 r = 2 ∨ a 57 r = 3 := by omega
      have hx3 : a 57 r = 3 → ¬ (a 57 x = 2 ∨ a 57 x = 3) := by omega
      have obr := (hC.2.2.2.1 _ hr).ob hrod
      have no7 : (x3 < 0 ∨ 1 < x3) → Runs miX11_refuses (d + 1) [.ref 1, I_ 7] n (W0 dy) g (fun v n' S' g' => V miX11_hang (d + 2) 105 (LH x r x3 x4 (g 3 x).toNat (g 3 r).toNat) (v.toList ++ []) n' S' g' 0 0 P) := fun c => by
        refine wX11_refuses hn ⟨by decide, bX11_hang_105 hn ⟨Or.inl rfl, h _ _ _ ?_ (hC.st2 0 7) (kr 7)⟩⟩
        unfold opHang; exact (if_neg g1).trans ((if_neg g2).trans (if_pos (c.elim Or.inl (fun z => Or.inr (Or.inl z)))))
      have at79 : (x3 = 0 ∨ x3 = 1) → Runs miX11_isThread (d + 1) [I_ x4] n (W0 dy) g (fun v n' S' g' => V miX11_hang (d + 2) 79 (LH x r x3 x4 (g 3 x).toNat (g 3 r).toNat) (v.toList ++ []) n' S' g' 0 0 P) := fun e3 => by
        have e30 : ¬ x3 < 0 := by omega
        have e31 : ¬ 1 < x3 := by omega
        refine hang_79 hC hI hx hr hrod h3 e3 h4 (fun c => h _ _ _ ?_ (hC.st2 0 7) (kr 7)) (fun c c8 => h _ _ _ ?_ (hC.st2 0 8) (kr 8)) (fun c c8 g' hc' hk' => h _ _ _ ?_ hc' hk')
        · unfold opHang; exact (if_neg g1).trans ((if_neg g2).trans (if_pos (Or.inr (Or.inr c))))
        · unfold opHang; exact (if_neg g1).trans ((if_neg g2).trans ((if_neg (fun z => z.elim e30 (fun z => z.elim e31 c))).trans (if_pos c8)))
        · unfold opHang; exact (if_neg g1).trans ((if_neg g2).trans ((if_neg (fun z => z.elim e30 (fun z => z.elim e31 c))).trans (if_neg c8)))
      clear g1 g2
      refine bX11_hang_12 hn ⟨fun q => absurd q (Nat.ne_of_gt bx), fun _ => ⟨fun _ => cs_asRod hC hI hr ⟨fun c => ?_, fun c => absurd hrod c⟩, fun q => absurd q (Nat.ne_of_gt br)⟩⟩
      refine bX11_hang_35 hn ⟨fun q => absurd q (Nat.ne_of_gt br), fun _ => ⟨obr, fun q => ⟨h3, fun q2 => at79 (Or.inl q2), fun q2 => ⟨fun q3 => no7 (by omega), fun q3 => at79 (Or.inr q3)⟩⟩, fun q => cs_asRod hC hI hx ⟨fun c' => absurd c' (hx3 (k1 ▸ q)), fun c' => ?_⟩⟩⟩
      exact bX11_hang_56 hn ⟨fun _ => ⟨h3, fun q2 => at79 (Or.inl q2), fun q2 => ⟨fun q3 => no7 (by omega), fun q3 => at79 (Or.inr q3)⟩⟩, fun q => absurd q (Nat.lt_irrefl 0)⟩
end Class3
