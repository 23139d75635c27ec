/-! CLEAR: what the class prepares -/
def wpi (a : Hp) (z : Nat) : List Nat → List (Nat × Nat)
  | [] => []
  | y :: r => if cmI a 5 z y = 1 then (z, y) :: wpi a z r else wpi a z r
def wpl (a : Hp) : List Nat → List (Nat × Nat)
  | [] => []
  | z :: r => wpi a z r ++ wpl a r
theorem cmI_b (a : Hp) (ap : Int) (x y : Nat) : cmI a ap x y = 0 ∨ cmI a ap x y = 1 := by unfold cmI; split <;> omega
theorem wpi_len (a : Hp) (z : Nat) : ∀ r : List Nat, ((wpi a z r).length : Int) = sumL (cmI a 5 z) r
  | [] => rfl
  | y :: r => by
    have ih := wpi_len a z r
    have b := cmI_b a 5 z y
    show ((wpi a z (y :: r)).length : Int) = cmI a 5 z y + sumL (cmI a 5 z) r
    unfold wpi
    split
    · rename_i c
      rw [c]; show (((wpi a z r).length + 1 : Nat) : Int) = _; omega
    · omega
theorem wpl_len (a : Hp) : ∀ l : List Nat, ((wpl a l).length : Int) = pairSum (cmI a 5) l
  | [] => rfl
  | z :: r => by
    have ih := wpl_len a r
    have i2 := wpi_len a z r
    show ((wpi a z r ++ wpl a r).length : Int) = sumL (cmI a 5 z) r + pairSum (cmI a 5) r
    rw [List.length_append]; omega
theorem wpi_in (a : Hp) (z : Nat) : ∀ (r : List Nat) (q : Nat × Nat), q ∈ wpi a z r ↔ (q.1 = z ∧ q.2 ∈ r ∧ cmI a 5 z q.2 = 1)
  | [], q => by simp [wpi]
  | y :: r, q => by
    have ih := wpi_in a z r q
    unfold wpi
    split
    · rename_i c
      rw [List.mem_cons, ih]
      constructor
      · rintro (w | w)
        · rw [w]; exact ⟨rfl, List.mem_cons_self .., c⟩
        · exact ⟨w.1, List.mem_cons_of_mem _ w.2.1, w.2.2⟩
      · intro w
        rcases List.mem_cons.mp w.2.1 with e | e
        · refine Or.inl ?_
          rw [← w.1, ← e]
        · exact Or.inr ⟨w.1, e, w.2.2⟩
    · rename_i c
      rw [ih]
      constructor
      · intro w; exact ⟨w.1, List.mem_cons_of_mem _ w.2.1, w.2.2⟩
      · intro w
        rcases List.mem_cons.mp w.2.1 with e | e
        · rw [e] at w; exact absurd w.2.2 c
        · exact ⟨w.1, e, w.2.2⟩
theorem wpl_in (a : Hp) : ∀ (l : List Nat) (q : Nat × Nat), l.Nodup → q ∈ wpl a l → q.1 ∈ l ∧ q.2 ∈ l ∧ q.1 ≠ q.2 ∧ cmI a 5 q.1 q.2 = 1
  | [], q, _, h => by simp [wpl] at h
  | z :: r, q, nd, h => by
    obtain ⟨n1, n2⟩ := List.nodup_cons.mp nd
    have h : q ∈ wpi a z r ++ wpl a r := h
    rcases List.mem_append.mp h with w | w
    · obtain ⟨w1, w2, w3⟩ := (wpi_in a z r q).mp w
      refine ⟨by rw [w1]; exact List.mem_cons_self .., List.mem_cons_of_mem _ w2, fun e => n1 ?_, by rw [w1]; exact w3⟩
      rw [← w1, e]; exact w2
    · obtain ⟨w1, w2, w3⟩ := wpl_in a r q n2 w
      exact ⟨List.mem_cons_of_mem _ w1, List.mem_cons_of_mem _ w2, w3⟩
theorem wpl_mem (a : Hp) {x y : Nat} (hc : cmI a 5 x y = 1) (hc' : cmI a 5 y x = 1) (hne : x ≠ y) : ∀ l : List Nat, x ∈ l → y ∈ l → (x, y) ∈ wpl a l ∨ (y, x) ∈ wpl a l
  | [], h, _ => by simp at h
  | z :: r, hx, hy => by
    show (x, y) ∈ wpi a z r ++ wpl a r ∨ (y, x) ∈ wpi a z r ++ wpl a r
    by_cases ex : x = z
    · have hy' := (List.mem_cons.mp hy).resolve_left (fun e => hne (by rw [ex, e]))
      exact Or.inl (List.mem_append.mpr (Or.inl ((wpi_in a z r (x, y)).mpr ⟨ex, hy', by rw [← ex]; exact hc⟩)))
    · have hx' := (List.mem_cons.mp hx).resolve_left ex
      by_cases ey : y = z
      · exact Or.inr (List.mem_append.mpr (Or.inl ((wpi_in a z r (y, x)).mpr ⟨ey, hx', by rw [← ey]; exact hc'⟩)))
      · have hy' := (List.mem_cons.mp hy).resolve_left ey
        rcases wpl_mem a hc hc' hne r hx' hy' with w | w
        · exact Or.inl (List.mem_append.mpr (Or.inr w))
        · exact Or.inr (List.mem_append.mpr (Or.inr w))
theorem cntP_nn (H : Nat → Int) : ∀ L : List (Nat × Nat), 0 ≤ cntP H L
  | [] => Int.le_refl _
  | p :: L => by
    have := cntP_nn H L
    show 0 ≤ (if H p.1 = H p.2 then 1 else 0) + cntP H L
    split <;> omega
theorem cntP_0 (H : Nat → Int) : ∀ L : List (Nat × Nat), cntP H L = 0 ↔ ∀ p, p ∈ L → H p.1 ≠ H p.2
  | [] => ⟨fun _ p hp => by simp at hp, fun _ => rfl⟩
  | p :: L => by
    have nn := cntP_nn H L
    have ih := cntP_0 H L
    have un : cntP H (p :: L) = (if H p.1 = H p.2 then 1 else 0) + cntP H L := rfl
    rw [un]
    constructor
    · intro h q hq
      by_cases c : H p.1 = H p.2
      · rw [if_pos c] at h; omega
      · rw [if_neg c] at h
        rcases List.mem_cons.mp hq with e | e
        · rw [e]; exact c
        · exact ih.mp (by omega) q e
    · intro h
      rw [if_neg (h p (List.mem_cons_self ..)), ih.mpr fun q hq => h q (List.mem_cons_of_mem _ hq)]; rfl
section Clear3
variable {d n : Nat} {dy : Nat → Shp} {g a G0 G : Hp} {P : Pst} {k0 : Nat} {l : List Nat}
theorem cmI_sym (hI : Inv a) (h0 : a 60 k0 < 0) (hm : ∀ y : Nat, y ∈ l ↔ ((y : Int) < a 53 5 ∧ abv (a 60) k0 60 y = true)) {x y : Nat} (hx : x ∈ l) (hy : y ∈ l) (ap : Int) : cmI a ap x y = cmI a ap y x := by
  obtain ⟨hx, ax⟩ := (hm x).mp hx
  obtain ⟨hy, ay⟩ := (hm y).mp hy
  by_cases e : x = y
  · rw [e]
  · unfold cmI
    by_cases w : a 57 x = 1 ∧ a 57 y = 1
    · have two := Wt.two hI h0 hx hy e ⟨ax, w.1⟩ ⟨ay, w.2⟩
      have e1 : ab (hh a x - hh a y) = ab (hh a y - hh a x) := by rw [ab_nat, ab_nat]; omega
      rw [tc_sym hI two, e1]
      by_cases v : ab (hh a y - hh a x) ≤ ap ∧ tc a y x = 1
      · rw [if_pos ⟨w, v⟩, if_pos ⟨⟨w.2, w.1⟩, v⟩]
      · rw [if_neg fun z => v z.2, if_neg fun z => v z.2]
    · rw [if_neg fun z => w z.1, if_neg fun z => w ⟨z.1.2, z.1.1⟩]
/-- the pairs that the class watches are enough -/
theorem watch_ok (hI : Inv a) (h0 : a 60 k0 < 0) (hw : cWh a k0) (nd : l.Nodup) (hm : ∀ y : Nat, y ∈ l ↔ ((y : Int) < a 53 5 ∧ abv (a 60) k0 60 y = true)) {m : Nat → Int} {ch : List Nat} (hM : HM a k0 m ch) (hc : ch.length ≤ 5) : (∀ q, q ∈ wpl a l → hgtm a m q.1 ≠ hgtm a m q.2) ↔ cntP (hgtm a m) (pall a k0 (a 53 5).toNat) = 0 := by
  have hN := hI.1
  rw [cntP_0]
  constructor
  · intro h p hp e
    obtain ⟨p1, p2, p3, p4, p5, p6⟩ := pall_in k0 _ p hp
    have x1 : p.1 ∈ l := (hm _).mpr ⟨by omega, p4.1⟩
    have y1 : p.2 ∈ l := (hm _).mpr ⟨by omega, p5.1⟩
    have t := nr_tc hI h0 hw (x := p.1) (y := p.2) (by omega) (by omega) p4.1 p5.1
    have e1 := hM.2 p.1 (by omega)
    have e2 := hM.2 p.2 (by omega)
    have s1 := sumL_b1 a p.1 ch
    have s2 := sumL_b1 a p.2 ch
    have eab : ab (hh a p.1 - hh a p.2) = (((hh a p.1 - hh a p.2).natAbs : Nat) : Int) := ab_nat _
    have c : cmI a 5 p.1 p.2 = 1 := by
      unfold cmI
      refine if_pos ⟨⟨p4.2, p5.2⟩, ?_, t.symm.trans p6⟩
      rw [eab]
      generalize sumL (fun c => if abv (a 60) c 60 p.1 = true then 1 else 0) ch = S1 at *
      generalize sumL (fun c => if abv (a 60) c 60 p.2 = true then 1 else 0) ch = S2 at *
      omega
    have c' : cmI a 5 p.2 p.1 = 1 := (cmI_sym hI h0 hm x1 y1 5).symm.trans c
    rcases wpl_mem a c c' (by omega) l x1 y1 with z | z
    · exact h _ z e
    · exact h _ z e.symm
  · intro h q hq e
    obtain ⟨q1, q2, q3, q4⟩ := wpl_in a l q nd hq
    obtain ⟨x1, ax⟩ := (hm q.1).mp q1
    obtain ⟨y1, ay⟩ := (hm q.2).mp q2
    have c : (a 57 q.1 = 1 ∧ a 57 q.2 = 1) ∧ ab (hh a q.1 - hh a q.2) ≤ 5 ∧ tc a q.1 q.2 = 1 := by
      unfold cmI at q4
      by_cases c : (a 57 q.1 = 1 ∧ a 57 q.2 = 1) ∧ ab (hh a q.1 - hh a q.2) ≤ 5 ∧ tc a q.1 q.2 = 1
      · exact c
      · rw [if_neg c] at q4; omega
    have two := Wt.two hI h0 x1 y1 q3 ⟨ax, c.1.1⟩ ⟨ay, c.1.2⟩
    rcases Nat.lt_or_gt_of_ne q3 with z | z
    · have n1 := (nr_tc hI h0 hw x1 y1 ax ay).trans c.2.2
      exact h _ (pall_mem k0 q.1 q.2 z (by omega) ⟨ax, c.1.1⟩ ⟨ay, c.1.2⟩ n1 _ (by omega)) e
    · have n1 := (nr_tc hI h0 hw y1 x1 ay ax).trans ((tc_sym hI two).symm.trans c.2.2)
      exact h _ (pall_mem k0 q.2 q.1 z (by omega) ⟨ay, c.1.2⟩ ⟨ax, c.1.1⟩ n1 _ (by omega)) e.symm
/-- G is G0 but for the spans and the search's own cells -/
def SCg (G0 G : Hp) : Prop := ∀ i q, (i < 9 ∨ 17 < i) → G i q = G0 i q
def mixc (g G : Hp) : Hp := fun i q => if 9 ≤ i ∧ i ≤ 17 then G i q else g i q
theorem GF.mvc (hC : Ca n dy g a) (hF : GF g a G0 k0 l) (h : SCg G0 G) : GF (mixc g G) a G k0 l ∧ Ca n dy (mixc g G) a ∧ mixc g G 3 = g 3 := by
  obtain ⟨f1, ⟨f2, f2', f2''⟩, f3, f4, f5, f6, f7⟩ := hF
  have e3 : mixc g G 3 = g 3 := funext fun q => if_neg (by decide)
  refine ⟨⟨fun i q h1 h2 h3 => ?_, ⟨(h 4 1 (by decide)).trans f2, f2', f2''⟩, fun m j e => ?_, fun j hj => ?_, f5, f6, fun j hj => ?_⟩, hC.keep fun i q hi => if_neg ?_, e3⟩
  · by_cases c : 9 ≤ i ∧ i ≤ 17
    · exact (if_pos c).symm
    · exact (h i q (by omega)).trans ((f1 i q h1 h2 h3).trans (if_neg c).symm)
  · rw [h 5 m (by decide), f3 m j e, e3]
  · rw [h 4 2 (by decide)]; exact f4 j hj
  · have b := hC.cell ((f6 j).mp hj).1
    rw [e3, h _ 7 (by omega), h _ 6 (by omega), h _ 8 (by omega), h _ 9 (by omega)]
    exact f7 j hj
  · unfold cl at hi; omega
/-- the offered parts so far -/
def OF (g G : Hp) (H : List Nat) : Prop := G 11 2 = (H.length : Int) ∧ ∀ i h : Nat, H[i]? = some h → G 12 i = g 3 h ∧ G 13 i = 0
/-- the watched pairs so far -/
def WD (a G : Hp) (k0 : Nat) (W : List (Nat × Nat)) : Prop := G 11 8 = (W.length : Int) ∧ ∀ (p : Nat) (q : Nat × Nat), W[p]? = some q → (∀ c : Nat, c < 60 → (hb (G 15 p) c ↔ (PB a k0 c q.1 ∧ ¬ PB a k0 c q.2))) ∧ (∀ c : Nat, c < 60 → (hb (G 16 p) c ↔ (PB a k0 c q.2 ∧ ¬ PB a k0 c q.1))) ∧ G 17 p = hh a q.1 - hh a q.2
theorem WD.mv {W : List (Nat × Nat)} {G' : Hp} (h : WD a G k0 W) (e : ∀ i q, (i = 15 ∨ i = 16 ∨ i = 17 ∨ (i = 11 ∧ q = 8)) → G' i q = G i q) : WD a G' k0 W := by
  refine ⟨(e 11 8 (by omega)).trans h.1, fun p q hq => ?_⟩
  rw [e 15 p (by omega), e 16 p (by omega), e 17 p (by omega)]
  exact h.2 p q hq
theorem cs_watch {W : List (Nat × Nat)} {x y : Nat} (hC : Ca n dy g a) (hI : Inv a) (hF : GF g a G k0 l) (hx : x ∈ l) (hy : y ∈ l) (hW : WD a G k0 W) (hl : W.length < 435) (h : ∀ G', (∀ i q, i ≠ 15 → i ≠ 16 → i ≠ 17 → (i ≠ 11 ∨ q ≠ 8) → G' i q = G i q) → WD a G' k0 (W ++ [(x, y)]) → P none n (W0 dy) G') : Runs miX0_watch d [.ref 11, .ref (g 3 x).toNat, .ref (g 3 y).toNat] n (W0 dy) G P := by
  have hn := hC.1
  have hN := hI.1
  have hm := hF.2.2.2.2.2.1
  have hxN := ((hm x).mp hx).1
  have hyN := ((hm y).mp hy).1
  have bx := hC.cell hxN
  have by' := hC.cell hyN
  obtain ⟨e8, wq⟩ := hW
  obtain ⟨x7, x6, -⟩ := hF.2.2.2.2.2.2 x hx
  obtain ⟨y7, y6, -⟩ := hF.2.2.2.2.2.2 y hy
  have hbx := hh_b hI hxN
  have hby := hh_b hI hyN
  have e7 : G (g 3 x).toNat 7 - G (g 3 y).toNat 7 = hh a x - hh a y := by rw [x7, y7]; unfold rh hh; omega
  refine wX0_watch hn ⟨fun q => by omega, fun _ => ⟨(hC.2.2.2.1 x hxN).pt (hI.2.2.1 x hxN).2, (hC.2.2.2.1 y hyN).pt (hI.2.2.1 y hyN).2, fun u eu => ⟨⟨by omega, by omega⟩, fun v ev => fun w ew => ?_⟩⟩⟩
  rw [show (G 11 8).toNat = W.length by omega] at *
  rw [up2_i (by omega), up2_i (by omega)] at ev
  rw [up2_i (by omega), up2_i (by omega), up2_i (by omega), up2_i (by omega), e7] at ew
  refine ⟨⟨by omega, by omega⟩, ⟨by omega, by omega⟩, h _ (fun i q i1 i2 i3 i4 => ?_) ⟨?_, fun p q eq => ?_⟩⟩
  · rw [up2_ap, if_neg (by omega), up2_i i3, up2_i i2, up2_i i1]
  · rw [up2_s, e8, List.length_append]; rfl
  · have r15 : up2 (up2 (up2 (up2 G 15 W.length u) 16 W.length v) 17 W.length w) 11 8 (G 11 8 + 1) 15 p = if p = W.length then u else G 15 p := by
      rw [up2_i (by decide), up2_i (by decide), up2_i (by decide), up2_k]
    have r16 : up2 (up2 (up2 (up2 G 15 W.length u) 16 W.length v) 17 W.length w) 11 8 (G 11 8 + 1) 16 p = if p = W.length then v else G 16 p := by
      rw [up2_i (by decide), up2_i (by decide), up2_k, up2_i (by decide)]
    have r17 : up2 (up2 (up2 (up2 G 15 W.length u) 16 W.length v) 17 W.length w) 11 8 (G 11 8 + 1) 17 p = if p = W.length then w else G 17 p := by
      rw [up2_i (by decide), up2_k, up2_i (by decide), up2_i (by decide)]
    rw [r15, r16, r17]
    by_cases c : p < W.length
    · rw [List.getElem?_append_left c] at eq
      rw [if_neg (by omega), if_neg (by omega), if_neg (by omega)]; exact wq p q eq
    · rw [List.getElem?_append_right (by omega)] at eq
      have hlt := (List.getElem?_eq_some_iff.mp eq).1
      have hlt : p - W.length < 1 := hlt
      rw [show p - W.length = 0 by omega] at eq
      have eq : (x, y) = q := by simpa using eq
      rw [if_pos (by omega), if_pos (by omega), if_pos (by omega), ← eq, eu, ev]
      refine ⟨fun c hc => ?_, fun c hc => ?_, ew⟩
      · rw [hb_alone hc, x6 c hc, y6 c hc]
      · rw [hb_alone hc, x6 c hc, y6 c hc]
end Clear3
