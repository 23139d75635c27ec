/-! HANGING, TAKING OFF, SWAPPING: invariant and relation -/
section Links
variable {n : Nat} {dy : Nat → Shp} {g a : Hp}
theorem up2_ap {g : Hp} {i k j q : Nat} {x : Int} : up2 g i k x j q = if j = i ∧ q = k then x else g j q := rfl
def hgA (a : Hp) (x r : Nat) (e t : Int) : Hp := up2 (up2 (up2 (up2 a 60 x r) 61 x e) 62 x t) (if e = 0 then 66 else 67) r x
theorem hgA_rows {x r : Nat} {e t : Int} : (∀ j, hgA a x r e t 60 j = if j = x then (r : Int) else a 60 j) ∧ (∀ j, hgA a x r e t 61 j = if j = x then e else a 61 j) ∧ (∀ j, hgA a x r e t 62 j = if j = x then t else a 62 j) ∧ (∀ j, hgA a x r e t 66 j = if e = 0 ∧ j = r then (x : Int) else a 66 j) ∧ (∀ j, hgA a x r e t 67 j = if e ≠ 0 ∧ j = r then (x : Int) else a 67 j) ∧ ∀ i q, i ≠ 60 → i ≠ 61 → i ≠ 62 → i ≠ 66 → i ≠ 67 → hgA a x r e t i q = a i q := by
  unfold hgA
  by_cases c : e = 0
  · rw [if_pos c]
    refine ⟨fun j => ?_, fun j => ?_, fun j => ?_, fun j => ?_, fun j => ?_, fun i q h1 h2 h3 h4 h5 => ?_⟩
    · rw [up2_i (by omega), up2_i (by omega), up2_i (by omega), up2_k]
    · rw [up2_i (by omega), up2_i (by omega), up2_k]; rfl
    · rw [up2_i (by omega), up2_k]; rfl
    · rw [up2_k]
      by_cases d : j = r
      · rw [if_pos d, if_pos ⟨c, d⟩]
      · rw [if_neg d, if_neg (by omega)]; rfl
    · rw [if_neg (by omega)]; rfl
    · rw [up2_i h4, up2_i h3, up2_i h2, up2_i h1]
  · rw [if_neg c]
    refine ⟨fun j => ?_, fun j => ?_, fun j => ?_, fun j => ?_, fun j => ?_, fun i q h1 h2 h3 h4 h5 => ?_⟩
    · rw [up2_i (by omega), up2_i (by omega), up2_i (by omega), up2_k]
    · rw [up2_i (by omega), up2_i (by omega), up2_k]; rfl
    · rw [up2_i (by omega), up2_k]; rfl
    · rw [if_neg (by omega)]; rfl
    · rw [up2_k]
      by_cases d : j = r
      · rw [if_pos d, if_pos ⟨c, d⟩]
      · rw [if_neg d, if_neg (by omega)]; rfl
    · rw [up2_i h5, up2_i h3, up2_i h2, up2_i h1]
theorem Inv.hang (hI : Inv a) {x r : Nat} {e t : Int} (hx : (x : Int) < a 53 5) (hr : (r : Int) < a 53 5) (hk : a 57 r = 2 ∨ a 57 r = 3) (he : e = 0 ∨ e = 1) (ht : 1 ≤ t ∧ t ≤ 1000) (ho : a 60 x < 0) (hf : (e = 0 → a 66 r < 0) ∧ (e = 1 → a 67 r < 0)) (hab : abv (a 60) x 60 r = false) : Inv (hgA a x r e t) := by
  obtain ⟨r0, r1, r2, r6, r7, r9⟩ := @hgA_rows a x r e t
  obtain ⟨dp, hD⟩ := hI.dp
  refine hI.dyn (fun i q _ h1 _ h6 h7 => r9 i q (by omega) (by omega) (by omega) h6 h7) (PR_hang hx hr hk he ht ho hf r0 r1 r2 r6 r7 hI.pr) (fun j hj c => ?_) (Fo.hang hD hI.1.2 hx hr hab r0)
  have : j ≠ r := fun e9 => by rw [e9] at c; omega
  rw [r6, r7, if_neg (by omega), if_neg (by omega)]
  exact ⟨rfl, rfl⟩
def offA (a : Hp) (x : Nat) : Hp := off a x
theorem off_rows {x : Nat} : (∀ j, off a x 60 j = if j = x then -1 else a 60 j) ∧ (∀ j, off a x 61 j = if j = x then -1 else a 61 j) ∧ (∀ j, off a x 62 j = if j = x then 0 else a 62 j) ∧ (∀ j, off a x 66 j = if a 61 x = 0 ∧ j = (a 60 x).toNat then -1 else a 66 j) ∧ (∀ j, off a x 67 j = if a 61 x ≠ 0 ∧ j = (a 60 x).toNat then -1 else a 67 j) ∧ ∀ i q, i ≠ 60 → i ≠ 61 → i ≠ 62 → i ≠ 66 → i ≠ 67 → off a x i q = a i q := by
  unfold off
  by_cases c : a 61 x = 0
  · rw [if_pos c]
    refine ⟨fun j => ?_, fun j => ?_, fun j => ?_, fun j => ?_, fun j => ?_, fun i q h1 h2 h3 h4 h5 => ?_⟩
    · rw [up2_i (by omega), up2_i (by omega), up2_k]; rfl
    · rw [up2_i (by omega), up2_k]; rfl
    · rw [up2_k]; rfl
    · rw [up2_i (by omega), up2_i (by omega), up2_i (by omega), up2_k]
      by_cases d : j = (a 60 x).toNat
      · rw [if_pos d, if_pos ⟨c, d⟩]
      · rw [if_neg d, if_neg (by omega)]
    · rw [if_neg (by omega)]; rfl
    · rw [up2_i h3, up2_i h2, up2_i h1, up2_i h4]
  · rw [if_neg c]
    refine ⟨fun j => ?_, fun j => ?_, fun j => ?_, fun j => ?_, fun j => ?_, fun i q h1 h2 h3 h4 h5 => ?_⟩
    · rw [up2_i (by omega), up2_i (by omega), up2_k]; rfl
    · rw [up2_i (by omega), up2_k]; rfl
    · rw [up2_k]; rfl
    · rw [if_neg (by omega)]; rfl
    · rw [up2_i (by omega), up2_i (by omega), up2_i (by omega), up2_k]
      by_cases d : j = (a 60 x).toNat
      · rw [if_pos d, if_pos ⟨c, d⟩]
      · rw [if_neg d, if_neg (by omega)]
    · rw [up2_i h3, up2_i h2, up2_i h1, up2_i h5]
theorem Inv.off (hI : Inv a) {x : Nat} (hx : (x : Int) < a 53 5) (ho : 0 ≤ a 60 x) : Inv (off a x) := by
  obtain ⟨r0, r1, r2, r6, r7, r9⟩ := @off_rows a x
  obtain ⟨dp, hD⟩ := hI.dp
  have hrod := ((hI.2.2.1 x hx).1.2.2.1 ho).2.1
  refine hI.dyn (fun i q _ h1 _ h6 h7 => r9 i q (by omega) (by omega) (by omega) h6 h7) (PR_off hx ho r0 r1 r2 r6 r7 hI.pr) (fun j hj c => ?_) (Fo.less hD (fun k => by rw [r0 k]; split <;> omega))
  have : j ≠ (a 60 x).toNat := fun e9 => by rw [e9] at c; omega
  rw [r6, r7, if_neg (by omega), if_neg (by omega)]
  exact ⟨rfl, rfl⟩
/-- a part hung: what the class writes -/
theorem Ca.hang (hC : Ca n dy g a) (hI : Inv a) {x r : Nat} {e t : Int} (hx : (x : Int) < a 53 5) (hr : (r : Int) < a 53 5) (hxr : x ≠ r) (hk : a 57 r = 2 ∨ a 57 r = 3) (he : e = 0 ∨ e = 1) {g' : Hp}
    (h5 : g' 1 2 = g 1 2 ∧ g' 1 3 = a 53 0 ∧ g' 1 11 = g 1 11) (hg : ∀ i q, i ≠ 1 → g' i q = up2 (up2 (up2 (up2 g (g 3 r).toNat (if e = 0 then 14 else 15) (g 3 x)) (g 3 x).toNat 3 (g 3 r)) (g 3 x).toNat 4 e) (g 3 x).toNat 5 t i q) : Ca n dy g' (hgA a x r e t) := by
  obtain ⟨r0, r1, r2, r6, r7, r9⟩ := @hgA_rows a x r e t
  have bx := hC.cell hx
  have br := hC.cell hr
  have hu : ∀ j : Nat, (j : Int) < a 53 5 → ∀ q, g' (g 3 j).toNat q = if j = x ∧ q = 5 then t else if j = x ∧ q = 4 then e else if j = x ∧ q = 3 then g 3 r else if j = r ∧ q = (if e = 0 then 14 else 15) then g 3 x else g (g 3 j).toNat q := fun j hj q => by
    have bj := hC.cell hj
    rw [hg _ q (by omega)]
    simp only [up2_ap, hC.ne hj hx, hC.ne hj hr]
  refine hC.links ⟨h5.1, h5.2.1.trans (r9 53 0 (by omega) (by omega) (by omega) (by omega) (by omega)).symm, h5.2.2⟩ (fun i q h1 h2 => ?_) (fun i q _ h1 _ h6 h7 => r9 i q (by omega) (by omega) (by omega) h6 h7) (fun j hj q hq => ?_) (fun j hj => ⟨⟨?_, ?_, ?_⟩, fun c => ⟨?_, ?_⟩⟩)
  · rw [hg i q h2]
    simp only [up2_ap]
    rw [if_neg (by omega), if_neg (by omega), if_neg (by omega), if_neg (by omega)]
  · rw [hu j hj q, if_neg (by omega), if_neg (by omega), if_neg (by omega), if_neg (by split <;> omega)]
  · obtain ⟨⟨c3, c4, c5⟩, c6⟩ := hC.known hj
    rw [hu j hj 3, r0 j, if_neg (by omega), if_neg (by omega)]
    by_cases d : j = x
    · rw [if_pos ⟨d, rfl⟩, if_pos d]; unfold rfx; rw [if_neg (by omega)]; rfl
    · rw [if_neg (by omega), if_neg (by split <;> omega), if_neg d]; exact c3
  · obtain ⟨⟨c3, c4, c5⟩, c6⟩ := hC.known hj
    rw [hu j hj 4, r1 j, if_neg (by omega)]
    by_cases d : j = x
    · rw [if_pos ⟨d, rfl⟩, if_pos d]
    · rw [if_neg (by omega), if_neg (by omega), if_neg (by split <;> omega), if_neg d]; exact c4
  · obtain ⟨⟨c3, c4, c5⟩, c6⟩ := hC.known hj
    rw [hu j hj 5, r2 j]
    by_cases d : j = x
    · rw [if_pos ⟨d, rfl⟩, if_pos d]
    · rw [if_neg (by omega), if_neg (by omega), if_neg (by omega), if_neg (by split <;> omega), if_neg d]; exact c5
  · obtain ⟨⟨c3, c4, c5⟩, c6⟩ := hC.known hj
    rw [hu j hj 14, r6 j, if_neg (by omega), if_neg (by omega), if_neg (by omega)]
    by_cases d : e = 0 ∧ j = r
    · rw [if_pos d, if_pos ⟨d.2, by rw [if_pos d.1]⟩]; unfold rfx; rw [if_neg (by omega)]; rfl
    · rw [if_neg d, if_neg (fun q => d ⟨Decidable.byContradiction (fun z => by rw [if_neg z] at q; omega), q.1⟩)]; exact (c6 c).2.1
  · obtain ⟨⟨c3, c4, c5⟩, c6⟩ := hC.known hj
    rw [hu j hj 15, r7 j, if_neg (by omega), if_neg (by omega), if_neg (by omega)]
    by_cases d : e ≠ 0 ∧ j = r
    · rw [if_pos d, if_pos ⟨d.2, by rw [if_neg d.1]⟩]; unfold rfx; rw [if_neg (by omega)]; rfl
    · rw [if_neg d, if_neg (fun q => d ⟨fun z => by rw [if_pos z] at q; omega, q.1⟩)]; exact (c6 c).2.2
/-- a part taken off: what the class writes -/
theorem Ca.off (hC : Ca n dy g a) (hI : Inv a) {x : Nat} (hx : (x : Int) < a 53 5) (ho : 0 ≤ a 60 x) {g' : Hp}
    (h5 : g' 1 2 = g 1 2 ∧ g' 1 3 = a 53 0 ∧ g' 1 11 = g 1 11) (hg : ∀ i q, i ≠ 1 → g' i q = up2 (up2 (up2 (up2 g (g 3 (a 60 x).toNat).toNat (if a 61 x = 0 then 14 else 15) 0) (g 3 x).toNat 3 0) (g 3 x).toNat 4 (-1)) (g 3 x).toNat 5 0 i q) : Ca n dy g' (off a x) := by
  obtain ⟨r0, r1, r2, r6, r7, r9⟩ := @off_rows a x
  have hr : (((a 60 x).toNat : Nat) : Int) < a 53 5 := by have := (hI.2.2.1 x hx).1.1; omega
  generalize hrr : (a 60 x).toNat = r at *
  have bx := hC.cell hx
  have br := hC.cell hr
  have hu : ∀ j : Nat, (j : Int) < a 53 5 → ∀ q, g' (g 3 j).toNat q = if j = x ∧ q = 5 then 0 else if j = x ∧ q = 4 then -1 else if j = x ∧ q = 3 then 0 else if j = r ∧ q = (if a 61 x = 0 then 14 else 15) then 0 else g (g 3 j).toNat q := fun j hj q => by
    have bj := hC.cell hj
    rw [hg _ q (by omega)]
    simp only [up2_ap, hC.ne hj hx, hC.ne hj hr]
  refine hC.links ⟨h5.1, h5.2.1.trans (r9 53 0 (by omega) (by omega) (by omega) (by omega) (by omega)).symm, h5.2.2⟩ (fun i q h1 h2 => ?_) (fun i q _ h1 _ h6 h7 => r9 i q (by omega) (by omega) (by omega) h6 h7) (fun j hj q hq => ?_) (fun j hj => ⟨⟨?_, ?_, ?_⟩, fun c => ⟨?_, ?_⟩⟩)
  · rw [hg i q h2]
    simp only [up2_ap]
    rw [if_neg (by omega), if_neg (by omega), if_neg (by omega), if_neg (by omega)]
  · rw [hu j hj q, if_neg (by omega), if_neg (by omega), if_neg (by omega), if_neg (by split <;> omega)]
  · obtain ⟨⟨c3, c4, c5⟩, c6⟩ := hC.known hj
    rw [hu j hj 3, r0 j, if_neg (by omega), if_neg (by omega)]
    by_cases d : j = x
    · rw [if_pos ⟨d, rfl⟩, if_pos d]; unfold rfx; rw [if_pos (by omega)]
    · rw [if_neg (by omega), if_neg (by split <;> omega), if_neg d]; exact c3
  · obtain ⟨⟨c3, c4, c5⟩, c6⟩ := hC.known hj
    rw [hu j hj 4, r1 j, if_neg (by omega)]
    by_cases d : j = x
    · rw [if_pos ⟨d, rfl⟩, if_pos d]
    · rw [if_neg (by omega), if_neg (by omega), if_neg (by split <;> omega), if_neg d]; exact c4
  · obtain ⟨⟨c3, c4, c5⟩, c6⟩ := hC.known hj
    rw [hu j hj 5, r2 j]
    by_cases d : j = x
    · rw [if_pos ⟨d, rfl⟩, if_pos d]
    · rw [if_neg (by omega), if_neg (by omega), if_neg (by omega), if_neg (by split <;> omega), if_neg d]; exact c5
  · obtain ⟨⟨c3, c4, c5⟩, c6⟩ := hC.known hj
    rw [hu j hj 14, r6 j, if_neg (by omega), if_neg (by omega), if_neg (by omega)]
    by_cases d : a 61 x = 0 ∧ j = r
    · rw [if_pos d, if_pos ⟨d.2, by rw [if_pos d.1]⟩]; unfold rfx; rw [if_pos (by omega)]
    · rw [if_neg d, if_neg (fun q => d ⟨Decidable.byContradiction (fun z => by rw [if_neg z] at q; omega), q.1⟩)]; exact (c6 c).2.1
  · obtain ⟨⟨c3, c4, c5⟩, c6⟩ := hC.known hj
    rw [hu j hj 15, r7 j, if_neg (by omega), if_neg (by omega), if_neg (by omega)]
    by_cases d : a 61 x ≠ 0 ∧ j = r
    · rw [if_pos d, if_pos ⟨d.2, by rw [if_neg d.1]⟩]; unfold rfx; rw [if_pos (by omega)]
    · rw [if_neg d, if_neg (fun q => d ⟨fun z => by rw [if_pos z] at q; omega, q.1⟩)]; exact (c6 c).2.2
end Links
