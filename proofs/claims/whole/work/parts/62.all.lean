/-! ALL: both sides -/
def rodc (a : Hp) (y : Nat) : Int := if a 57 y = 2 ∨ a 57 y = 3 then 1 else 0
abbrev canP (a : Hp) (y : Nat) : Prop := 0 < lpo a y ∧ lpo a y < lqo a y
abbrev cAll (a : Hp) (k : Nat) : Prop := ∀ y : Nat, y < (a 53 5).toNat → abv (a 60) k 60 y = true → (a 57 y = 2 ∨ a 57 y = 3) → canP a y
/-- the rods of k's mobile below number m tied so that they hang level -/
def alv (a : Hp) (k : Nat) : Nat → Hp
  | 0 => a
  | m + 1 => if abv (a 60) k 60 m = true ∧ (a 57 m = 2 ∨ a 57 m = 3) then up2 (up2 (alv a k m) 64 m (tpU a m)) 65 m (tpL a m) else alv a k m
theorem alv_o {a : Hp} {k i q : Nat} (h1 : i ≠ 64) (h2 : i ≠ 65) : ∀ m, alv a k m i q = a i q
  | 0 => rfl
  | m + 1 => by
    unfold alv
    split
    · rw [up2_i h2, up2_i h1]; exact alv_o h1 h2 m
    · exact alv_o h1 h2 m
theorem alv_64 {a : Hp} {k y : Nat} : ∀ m, alv a k m 64 y = if y < m ∧ abv (a 60) k 60 y = true ∧ (a 57 y = 2 ∨ a 57 y = 3) then tpU a y else a 64 y
  | 0 => by rw [if_neg (by omega)]; rfl
  | m + 1 => by
    unfold alv
    by_cases c : abv (a 60) k 60 m = true ∧ (a 57 m = 2 ∨ a 57 m = 3)
    · rw [if_pos c, up2_i (by omega), up2_k, alv_64 m]
      by_cases e : y = m
      · rw [if_pos e, e, if_pos ⟨by omega, c⟩]
      · rw [if_neg e]
        by_cases z : y < m ∧ abv (a 60) k 60 y = true ∧ (a 57 y = 2 ∨ a 57 y = 3)
        · rw [if_pos z, if_pos ⟨by omega, z.2⟩]
        · rw [if_neg z, if_neg fun w => z ⟨by omega, w.2⟩]
    · rw [if_neg c, alv_64 m]
      by_cases e : y = m
      · rw [e, if_neg (by omega), if_neg fun w => c w.2]
      · by_cases z : y < m ∧ abv (a 60) k 60 y = true ∧ (a 57 y = 2 ∨ a 57 y = 3)
        · rw [if_pos z, if_pos ⟨by omega, z.2⟩]
        · rw [if_neg z, if_neg fun w => z ⟨by omega, w.2⟩]
theorem alv_65 {a : Hp} {k y : Nat} : ∀ m, alv a k m 65 y = if y < m ∧ abv (a 60) k 60 y = true ∧ (a 57 y = 2 ∨ a 57 y = 3) then tpL a y else a 65 y
  | 0 => by rw [if_neg (by omega)]; rfl
  | m + 1 => by
    unfold alv
    by_cases c : abv (a 60) k 60 m = true ∧ (a 57 m = 2 ∨ a 57 m = 3)
    · rw [if_pos c, up2_k, up2_i (by omega), alv_65 m]
      by_cases e : y = m
      · rw [if_pos e, e, if_pos ⟨by omega, c⟩]
      · rw [if_neg e]
        by_cases z : y < m ∧ abv (a 60) k 60 y = true ∧ (a 57 y = 2 ∨ a 57 y = 3)
        · rw [if_pos z, if_pos ⟨by omega, z.2⟩]
        · rw [if_neg z, if_neg fun w => z ⟨by omega, w.2⟩]
    · rw [if_neg c, alv_65 m]
      by_cases e : y = m
      · rw [e, if_neg (by omega), if_neg fun w => c w.2]
      · by_cases z : y < m ∧ abv (a 60) k 60 y = true ∧ (a 57 y = 2 ∨ a 57 y = 3)
        · rw [if_pos z, if_pos ⟨by omega, z.2⟩]
        · rw [if_neg z, if_neg fun w => z ⟨by omega, w.2⟩]
theorem inv_alv {a : Hp} {k : Nat} (hI : Inv a) (hc : cAll a k) : ∀ m, m ≤ (a 53 5).toNat → Inv (alv a k m)
  | 0, _ => hI
  | m + 1, hm => by
    have ih := inv_alv hI hc m (by omega)
    have hN := hI.1
    unfold alv
    by_cases c : abv (a 60) k 60 m = true ∧ (a 57 m = 2 ∨ a 57 m = 3)
    · rw [if_pos c]
      refine inv_tie ih ?_ ?_ (tp_b hI (by omega) (hc m (by omega) c.1 c.2))
      · rw [alv_o (by omega) (by omega)]; omega
      · rw [alv_o (by omega) (by omega)]; exact c.2
    · rw [if_neg c]; exact ih
def opAll (a : Hp) (x1 : Int) : Int × Hp :=
  if 0 < topI a x1 then (-1, up2 a 53 0 (topI a x1))
  else if cAll a x1.toNat then (sumN (fun y => if abv (a 60) x1.toNat 60 y = true then rodc a y else 0) (a 53 5).toNat, alv a x1.toNat (a 53 5).toNat)
  else (-1, up2 a 53 0 11)
section All
variable {d n : Nat} {dy : Nat → Shp} {g a G : Hp} {P : Pst} {l : List Nat}
theorem mem_tk {i y z : Nat} (e : l[i]? = some y) : z ∈ l.take (i + 1) ↔ (z ∈ l.take i ∨ z = y) := by
  rw [List.take_add_one, e, List.mem_append]
  simp
theorem cs_canAllBeLevel {k0 : Nat} (hC : Ca n dy g a) (hI : Inv a) (hF : GF g a G k0 l) (h0 : ¬ cAll a k0 → P (some (I_ 0)) n (W0 dy) G) (h1 : cAll a k0 → P (some (I_ 1)) n (W0 dy) G) : Runs miX1_canAllBeLevel (d + 3) [.ref 4] n (W0 dy) G P := by
  have hn := hC.1
  have e41 := hF.2.1.1
  have l60 := hF.2.1.2.1
  have gl := hF.gl hC hI
  have hm := hF.2.2.2.2.2.1
  have key : ∀ (r : List Nat) (i : Nat), i ≤ l.length → l.drop i = r → (∀ y, y ∈ l.take i → (a 57 y = 2 ∨ a 57 y = 3) → canP a y) → V miX1_canAllBeLevel (d + 3) 2 [(0, .ref 4), (1, I_ (i : Int))] [] n (W0 dy) G 0 0 P := by
    intro r
    induction r with
    | nil =>
      intro i hi hr hx
      have hl := List.drop_eq_nil_iff.mp hr
      refine bX1_canAllBeLevel_2 hn ⟨⟨by omega, by omega⟩, fun _ => h1 fun y hy ab rod => hx y ?_ rod, fun q => by omega⟩
      rw [List.take_of_length_le hl]
      exact (hm y).mpr ⟨by omega, ab⟩
    | cons y r ih =>
      intro i hi hr hx
      obtain ⟨e, er, il⟩ := dropc hr
      have hy := List.mem_of_getElem? e
      obtain ⟨hyN, hya⟩ := (hm y).mp hy
      have hK := (hI.2.2.1 y hyN).2
      have hp := hC.2.2.2.1 y hyN
      have ek := hp.isk hK
      have nx : ((a 57 y = 2 ∨ a 57 y = 3) → canP a y) → V miX1_canAllBeLevel (d + 3) 2 [(0, .ref 4), (1, I_ ((i : Int) + 1))] [] n (W0 dy) G 0 0 P := fun hc => by
        rw [show ((i : Nat) : Int) + 1 = ((i + 1 : Nat) : Int) by omega]
        refine ih (i + 1) (by omega) er fun z hz rod => ?_
        rcases (mem_tk e).mp hz with q | q
        · exact hx z q rod
        · rw [q] at rod ⊢; exact hc rod
      refine bX1_canAllBeLevel_2 hn ⟨⟨by omega, by omega⟩, fun q => by omega, fun _ => ⟨⟨by omega, by omega⟩, ?_⟩⟩
      rw [show G 5 ((i : Nat) : Int).toNat = g 3 y from hF.2.2.1 i y e]
      refine ⟨Or.inr (hp.pt hK), fun q => nx fun c => ?_, fun q => ?_⟩
      · rw [if_pos c] at ek; omega
      · have c : a 57 y = 2 ∨ a 57 y = 3 := Decidable.byContradiction fun c => by rw [if_neg c] at ek; exact q ek
        refine ⟨hp.ob c, cs_canBeLevel hC hI gl hy c (fun z => ?_) (fun z => ?_)⟩
        · exact bX1_canAllBeLevel_33 hn ⟨by decide, fun q => absurd rfl q, fun _ => h0 fun w => z (w y (by omega) hya c)⟩
        · exact bX1_canAllBeLevel_33 hn ⟨by decide, fun _ => nx fun _ => z, fun q => absurd q (by decide)⟩
  exact wX1_canAllBeLevel hn (key l 0 (by omega) rfl (fun y hy => by simp at hy))
theorem GL.up {c q0 : Nat} {x : Int} (h : GL g a G l) (hq : q0 = 12 ∨ q0 = 13) : GL g a (up2 G c q0 x) l := fun y hy => by
  obtain ⟨h1, ⟨h2, h3, h4, h5⟩, h6⟩ := h y hy
  have e : ∀ i q, q ≠ q0 → up2 G c q0 x i q = G i q := fun i q hq => if_neg fun z => hq z.2
  exact ⟨h1, ⟨(e _ _ (by omega)).trans h2, (e _ _ (by omega)).trans h3, (e _ _ (by omega)).trans h4, (e _ _ (by omega)).trans h5⟩, h6⟩
theorem cs_tieLevel {j : Nat} (hC : Ca n dy g a) (hI : Inv a) (hF : GL g a G l) (hj : j ∈ l) (c : a 57 j = 2 ∨ a 57 j = 3) (hc : canP a j) (h : P none n (W0 dy) (up2 (up2 G (g 3 j).toNat 12 (tpU a j)) (g 3 j).toNat 13 (tpL a j))) : Runs miX6_tieLevel (d + 3) [.ref (g 3 j).toNat] n (W0 dy) G P := by
  have hjN := (hF j hj).1
  have ob := (hC.2.2.2.1 j hjN).ob c
  have tb := tp_b hI hjN hc
  exact wX6_tieLevel hC.1 ⟨ob, cs_levelUpper hC hI hF hj c hc.1 (bX6_tieLevel_5 hC.1 ⟨ob, ⟨by omega, by omega⟩, ob, cs_levelLower hC hI (hF.up (Or.inl rfl)) hj c hc.1 (bX6_tieLevel_13 hC.1 ⟨ob, ⟨by omega, by omega⟩, h⟩)⟩)⟩
/-- what the cells hold once the rods of l are tied -/
def TD (g a G G' : Hp) (l : List Nat) : Prop := (∀ i q, i < 100 → G' i q = G i q) ∧ ∀ y : Nat, (y : Int) < a 53 5 → ∀ q, G' (g 3 y).toNat q = if (y ∈ l ∧ (a 57 y = 2 ∨ a 57 y = 3)) ∧ q = 12 then tpU a y else if (y ∈ l ∧ (a 57 y = 2 ∨ a 57 y = 3)) ∧ q = 13 then tpL a y else G (g 3 y).toNat q
theorem TD.skip {G' : Hp} {i y : Nat} (h : TD g a G G' (l.take i)) (e : l[i]? = some y) (c : ¬ (a 57 y = 2 ∨ a 57 y = 3)) : TD g a G G' (l.take (i + 1)) := by
  refine ⟨h.1, fun z hz q => ?_⟩
  rw [h.2 z hz q]
  by_cases w : z = y
  · rw [w, if_neg fun z => c z.1.2, if_neg fun z => c z.1.2, if_neg fun z => c z.1.2, if_neg fun z => c z.1.2]
  · have hm : z ∈ l.take (i + 1) ↔ z ∈ l.take i := by rw [mem_tk e]; exact ⟨fun q => q.resolve_right w, Or.inl⟩
    simp only [hm]
theorem TD.next {G' : Hp} {i y : Nat} (hC : Ca n dy g a) (hy : (y : Int) < a 53 5) (h : TD g a G G' (l.take i)) (e : l[i]? = some y) (c : a 57 y = 2 ∨ a 57 y = 3) : TD g a G (up2 (up2 G' (g 3 y).toNat 12 (tpU a y)) (g 3 y).toNat 13 (tpL a y)) (l.take (i + 1)) := by
  have hb := hC.cell hy
  refine ⟨fun j q hj => ?_, fun z hz q => ?_⟩
  · rw [up2_i (by omega), up2_i (by omega)]; exact h.1 j q hj
  · unfold up2
    simp only [hC.ne hz hy]
    rw [h.2 z hz q]
    by_cases w : z = y
    · rw [w]
      have hm : y ∈ l.take (i + 1) := (mem_tk e).mpr (Or.inr rfl)
      by_cases q3 : q = 13
      · rw [if_pos ⟨rfl, q3⟩, if_neg fun z => by omega, if_pos ⟨⟨hm, c⟩, q3⟩]
      · rw [if_neg fun z => q3 z.2]
        by_cases q2 : q = 12
        · rw [if_pos ⟨rfl, q2⟩, if_pos ⟨⟨hm, c⟩, q2⟩]
        · rw [if_neg fun z => q2 z.2, if_neg fun z => q2 z.2, if_neg fun z => q3 z.2, if_neg fun z => q2 z.2, if_neg fun z => q3 z.2]
    · rw [if_neg fun z => w z.1, if_neg fun z => w z.1]
      have hm : z ∈ l.take (i + 1) ↔ z ∈ l.take i := by rw [mem_tk e]; exact ⟨fun q => q.resolve_right w, Or.inl⟩
      simp only [hm]
theorem cs_tieAllLevel {k0 : Nat} (hC : Ca n dy g a) (hI : Inv a) (hF : GF g a G k0 l) (hc : cAll a k0) (h : ∀ G', TD g a G G' l → P (some (I_ (sumL (rodc a) l))) n (W0 dy) G') : Runs miX1_tieAllLevel (d + 4) [.ref 4] n (W0 dy) G P := by
  have hn := hC.1
  have e41 := hF.2.1.1
  have l60 := hF.2.1.2.1
  have gl := hF.gl hC hI
  have hm := hF.2.2.2.2.2.1
  have key : ∀ (r : List Nat) (i : Nat) (x1 : Int) (G' : Hp), i ≤ l.length → l.drop i = r → x1 + sumL (rodc a) r = sumL (rodc a) l → TD g a G G' (l.take i) → V miX1_tieAllLevel (d + 4) 4 [(0, .ref 4), (1, I_ x1), (2, I_ (i : Int))] [] n (W0 dy) G' 0 0 P := by
    intro r
    induction r with
    | nil =>
      intro i x1 G' hi hr hx hT
      have hl := List.drop_eq_nil_iff.mp hr
      have hx : x1 + 0 = sumL (rodc a) l := hx
      have e4 := hT.1 4 1 (by omega)
      refine bX1_tieAllLevel_4 hn ⟨⟨by omega, by omega⟩, fun _ => ?_, fun q => by omega⟩
      rw [show x1 = sumL (rodc a) l by omega]
      rw [List.take_of_length_le hl] at hT
      exact h G' hT
    | cons y r ih =>
      intro i x1 G' hi hr hx hT
      obtain ⟨e, er, il⟩ := dropc hr
      have hx : x1 + (rodc a y + sumL (rodc a) r) = sumL (rodc a) l := hx
      have hy := List.mem_of_getElem? e
      obtain ⟨hyN, hya⟩ := (hm y).mp hy
      have hK := (hI.2.2.1 y hyN).2
      have hp := hC.2.2.2.1 y hyN
      have ek := hp.isk hK
      have e4 := hT.1 4 1 (by omega)
      have glG : GL g a G' l := fun z hz => by
        obtain ⟨h1, ⟨h2, h3, h4, h5⟩, h6⟩ := gl z hz
        have k : ∀ q, q ≠ 12 → q ≠ 13 → G' (g 3 z).toNat q = G (g 3 z).toNat q := fun q q1 q2 => by
          rw [hT.2 z h1 q, if_neg fun w => q1 w.2, if_neg fun w => q2 w.2]
        exact ⟨h1, ⟨(k _ (by omega) (by omega)).trans h2, (k _ (by omega) (by omega)).trans h3, (k _ (by omega) (by omega)).trans h4, (k _ (by omega) (by omega)).trans h5⟩, h6⟩
      refine bX1_tieAllLevel_4 hn ⟨⟨by omega, by omega⟩, fun q => by omega, fun _ => ⟨⟨by omega, by omega⟩, ?_⟩⟩
      rw [show G' 5 ((i : Nat) : Int).toNat = g 3 y from (hT.1 5 i (by omega)).trans (hF.2.2.1 i y e), show ((i : Nat) : Int) + 1 = ((i + 1 : Nat) : Int) by omega]
      refine ⟨Or.inr (hp.pt hK), fun q => ?_, fun q => ?_⟩
      · have c : ¬ (a 57 y = 2 ∨ a 57 y = 3) := fun c => by rw [if_pos c] at ek; omega
        have w : rodc a y = 0 := if_neg c
        exact ih _ _ _ (by omega) er (by omega) (hT.skip e c)
      · have c : a 57 y = 2 ∨ a 57 y = 3 := Decidable.byContradiction fun c => by rw [if_neg c] at ek; exact q ek
        have w : rodc a y = 1 := if_pos c
        refine ⟨hp.ob c, cs_tieLevel hC hI glG hy c (hc y (by omega) hya c) (bX1_tieAllLevel_38 hn ?_)⟩
        rw [show ((i : Nat) : Int) + 1 = ((i + 1 : Nat) : Int) by omega]
        exact ih _ _ _ (by omega) er (by omega) (hT.next hC hyN e c)
  refine wX1_tieAllLevel hn (key l 0 0 G (by omega) rfl (by omega) ⟨fun _ _ _ => rfl, fun y hy q => ?_⟩)
  rw [if_neg fun z => by simp at z, if_neg fun z => by simp at z]
/-- where rods are tied -/
theorem Ca.ties (hC : Ca n dy g a) {C : Nat → Prop} [DecidablePred C] (v w : Nat → Int) {g' a' : Hp} (hr : ∀ k, C k → a 57 k = 2 ∨ a 57 k = 3) (h5 : g' 1 2 = g 1 2 ∧ g' 1 3 = a' 53 0 ∧ g' 1 11 = g 1 11) (hg : ∀ i q, i < 100 → i ≠ 1 → g' i q = g i q) (hu : ∀ j : Nat, (j : Int) < a 53 5 → ∀ q, g' (g 3 j).toNat q = if C j ∧ q = 12 then v j else if C j ∧ q = 13 then w j else g (g 3 j).toNat q) (ha : ∀ i q, i ≠ 64 → i ≠ 65 → a' i q = a i q) (hv : ∀ j, a' 64 j = if C j then v j else a 64 j) (hw : ∀ j, a' 65 j = if C j then w j else a 65 j) : Ca n dy g' a' := by
  have er : ∀ i, i ≠ 64 → i ≠ 65 → a' i = a i := fun i h1 h2 => funext fun q => ha i q h1 h2
  refine hC.pt (u := fun j q => if C j ∧ q = 12 then v j else if C j ∧ q = 13 then w j else g (g 3 j).toNat q) (ha 53 5 (by omega) (by omega)) ⟨h5.1, h5.2.1⟩ hg h5.2.2 ⟨ha 53 26 (by omega) (by omega), ha 53 29 (by omega) (by omega), fun i q h => ha i q (by omega) (by omega)⟩ hu (fun j hj => ?_)
  obtain ⟨⟨c3, c4, c5⟩, c6⟩ := hC.known hj
  refine CQ.re (hC.2.2.2.1 j hj) ⟨ha _ _ (by omega) (by omega), ha _ _ (by omega) (by omega), ha _ _ (by omega) (by omega), ha _ _ (by omega) (by omega)⟩ (fun w => ?_) (fun q hq => ?_) (fun c => ?_) ⟨?_, ?_, ?_⟩ (fun c => ⟨⟨?_, ?_⟩, ?_, ?_⟩)
  · unfold mdl; rw [er 68 (by omega) (by omega), er 69 (by omega) (by omega), er 70 (by omega) (by omega)]
  · exact (if_neg (by omega)).trans (if_neg (by omega))
  · have e : ¬ C j := fun e => by have := hr j e; omega
    exact ⟨(if_neg fun z => e z.1).trans (if_neg fun z => e z.1), (if_neg fun z => e z.1).trans (if_neg fun z => e z.1)⟩
  · rw [ha 60 j (by omega) (by omega)]; exact (if_neg (by omega)).trans ((if_neg (by omega)).trans c3)
  · rw [ha 61 j (by omega) (by omega)]; exact (if_neg (by omega)).trans ((if_neg (by omega)).trans c4)
  · rw [ha 62 j (by omega) (by omega)]; exact (if_neg (by omega)).trans ((if_neg (by omega)).trans c5)
  · rw [hv j]
    show (if C j ∧ 12 = 12 then v j else if C j ∧ 12 = 13 then w j else g (g 3 j).toNat 12) = _
    by_cases e : C j
    · rw [if_pos ⟨e, rfl⟩, if_pos e]
    · rw [if_neg fun z => e z.1, if_neg fun z => e z.1, if_neg e]; exact (c6 c).1.1
  · rw [hw j]
    show (if C j ∧ 13 = 12 then v j else if C j ∧ 13 = 13 then w j else g (g 3 j).toNat 13) = _
    by_cases e : C j
    · rw [if_neg (by omega), if_pos ⟨e, rfl⟩, if_pos e]
    · rw [if_neg fun z => e z.1, if_neg fun z => e z.1, if_neg e]; exact (c6 c).1.2
  · rw [ha 66 j (by omega) (by omega)]; exact (if_neg (by omega)).trans ((if_neg (by omega)).trans (c6 c).2.1)
  · rw [ha 67 j (by omega) (by omega)]; exact (if_neg (by omega)).trans ((if_neg (by omega)).trans (c6 c).2.2)
theorem cs_all {x1 : Int} (hC : Ca n dy g a) (hI : Inv a) (h1 : i3 x1) (h : ∀ v a' g', opAll (up2 a 53 0 0) x1 = (v, a') → Ca n dy g' a' → Kr g g' → P (some (I_ v)) n (W0 dy) g') : Runs miX11_all (d + 5) [.ref 1, I_ x1] n (W0 dy) g P := by
  have hn := hC.1
  refine wX11_all hn (cs_topGiven hC hI h1 ⟨fun c => ?_, fun c => ?_⟩)
  · refine bX11_all_5 hn ⟨fun q => absurd q (Nat.lt_irrefl 0), fun _ => h _ _ _ ?_ (hC.st2 0 _) ((Kr.refl g).up (by omega))⟩
    unfold opAll; exact if_pos c
  · obtain ⟨c1, c2, c3⟩ := topI_0 c
    obtain ⟨k, rfl⟩ := exN c1
    have hb := hC.cell (k := k) c2
    have hC0 := hC.st 0
    have hI0 : Inv (up2 a 53 0 0) := hI
    have hK0 : Kr g (up2 g 1 3 0) := (Kr.refl g).up (by omega)
    have cr : topI (up2 a 53 0 0) (k : Int) = 0 := c
    show V miX11_all (d + 5) 5 [(0, .ref 1), (1, I_ (k : Int))] [.ref (up2 g 1 3 0 3 k).toNat] n (W0 dy) (up2 g 1 3 0) 0 0 P
    have hb0 : 0 < (up2 g 1 3 0 3 k).toNat := show 0 < (g 3 k).toNat by omega
    have hk0 : (k : Int) < up2 a 53 0 0 53 5 := c2
    generalize (up2 g 1 3 0) = g0 at hC0 hK0 hb0 ⊢
    generalize (up2 a 53 0 0) = a0 at h hC0 hI0 cr hk0
    have eop : opAll a0 (k : Int) = if cAll a0 k then (sumN (fun y => if abv (a0 60) k 60 y = true then rodc a0 y else 0) (a0 53 5).toNat, alv a0 k (a0 53 5).toNat) else (-1, up2 a0 53 0 11) := by
      unfold opAll; exact if_neg (by rw [cr]; omega)
    rw [eop] at h
    refine bX11_all_5 hn ⟨fun _ => cs_gather hC0 hI0 hk0 fun G l hF => ?_, fun q => by omega⟩
    have hCG := hF.ca hC0
    have hKG := hK0.trans hF.kr
    have hm := hF.2.2.2.2.2.1
    refine bX11_all_20 hn (cs_canAllBeLevel hC0 hI0 hF (fun z => ?_) (fun z => ?_))
    · rw [if_neg z] at h
      exact bX11_all_27 hn ⟨by decide, fun q => absurd rfl q, fun _ => wX11_none hn ⟨by decide, bX11_all_36 hn (h _ _ _ rfl (hCG.st 11) (hKG.up (by omega)))⟩⟩
    · rw [if_pos z] at h
      refine bX11_all_27 hn ⟨by decide, fun _ => cs_tieAllLevel hC0 hI0 hF z fun G' hT => bX11_all_44 hn (h _ (alv a0 k (a0 53 5).toNat) _ ?_ ?_ ?_), fun q => absurd q (by decide)⟩
      · rw [hF.sum]
      · have e3 : G 3 = g0 3 := funext fun q => hF.g3 q
        refine hCG.ties (C := fun y => y ∈ l ∧ (a0 57 y = 2 ∨ a0 57 y = 3)) (tpU a0) (tpL a0) (fun k h => h.2) ⟨hT.1 1 2 (by omega), ?_, hT.1 1 11 (by omega)⟩ (fun i q hi _ => hT.1 i q hi) (fun j hj q => ?_) (fun i q i1 i2 => alv_o i1 i2 _) (fun j => ?_) (fun j => ?_)
        · rw [hT.1 1 3 (by omega), alv_o (by omega) (by omega)]; exact hCG.2.1.2
        · rw [e3]; exact hT.2 j hj q
        · rw [alv_64]
          by_cases w : j ∈ l ∧ (a0 57 j = 2 ∨ a0 57 j = 3)
          · have := (hm j).mp w.1
            rw [if_pos w, if_pos ⟨by omega, this.2, w.2⟩]
          · rw [if_neg w, if_neg fun y => w ⟨(hm j).mpr ⟨by omega, y.2.1⟩, y.2.2⟩]
        · rw [alv_65]
          by_cases w : j ∈ l ∧ (a0 57 j = 2 ∨ a0 57 j = 3)
          · have := (hm j).mp w.1
            rw [if_pos w, if_pos ⟨by omega, this.2, w.2⟩]
          · rw [if_neg w, if_neg fun y => w ⟨(hm j).mpr ⟨by omega, y.2.1⟩, y.2.2⟩]
      · exact hKG.trans fun i q hi => hT.1 i q (by omega)
end All
