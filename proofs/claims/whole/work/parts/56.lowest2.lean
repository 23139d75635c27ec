/-! LOWEST: the reference -/
section Lowest2
variable {d n : Nat} {dy : Nat → Shp} {g : Hp} {P : Pst}
theorem spX12_topped {x1 : Int} (hn : 100 ≤ n) (hN : g 53 5 ≤ 60) (h1 : i3 x1) (h : P (some (I_ (topI g x1))) n (W0 dy) g) : Runs miX12_topped (d + 1) [.ref 53, I_ x1] n (W0 dy) g P := by
  have h' : ∀ v, topI g x1 = v → P (some (I_ v)) n (W0 dy) g := fun v e => by rw [← e]; exact h
  have bad : (x1 < 0 ∨ g 53 5 ≤ x1) → V miX12_topped (d + 1) 5 [(0, .ref 53), (1, I_ x1)] [I_ 0] n (W0 dy) g 0 0 P := fun c =>
    bX12_topped_5 hn ⟨by decide, fun q => absurd rfl q, fun _ => h' 2 (if_pos c)⟩
  refine wX12_topped hn (wX12_isPart hn ⟨h1, fun q => bad (by omega), fun q => ⟨fun q2 => bad (by omega), fun q2 => ?_⟩⟩)
  have c : ¬ (x1 < 0 ∨ g 53 5 ≤ x1) := by omega
  refine bX12_topped_5 hn ⟨by decide, fun _ => ⟨⟨by omega, by omega⟩, fun q3 => h' 0 ?_, fun q3 => h' 8 ?_⟩, fun q3 => absurd q3 (by decide)⟩
  · unfold topI; rw [if_neg c, if_neg (by omega)]
  · unfold topI; rw [if_neg c, if_pos q3]
theorem RF.mv {G : Hp} (hF : RF g) (e5 : G 53 5 = g 53 5) (e60 : G 60 = g 60) : RF G := by
  unfold RF; rw [e5, e60]; exact hF
theorem rs_marks {k : Nat} (hn : 100 ≤ n) (hF : RF g) (hk : (k : Int) < g 53 5) (h : ∀ G : Hp, (∀ i q, i ≠ 75 → G i q = g i q) → (∀ y : Nat, (y : Int) < g 53 5 → G 75 y = abvI (g 60) k y) → P none n (W0 dy) G) : Runs miX12_marks (d + 1) [.ref 53, I_ (k : Int)] n (W0 dy) g P := by
  have hN := hF.1
  have key : ∀ (r i : Nat) (G : Hp), (r : Int) + i = g 53 5 → (∀ i q, i ≠ 75 → G i q = g i q) → (∀ y : Nat, y < i → G 75 y = abvI (g 60) k y) → V miX12_marks (d + 1) 2 [(0, .ref 53), (1, I_ (k : Int)), (2, I_ (i : Int))] [] n (W0 dy) G 0 0 P := by
    intro r
    induction r with
    | zero =>
      intro i G hi hG hy
      have e5 := hG 53 5 (by omega)
      exact bX12_marks_2 hn ⟨⟨by omega, by omega⟩, fun _ => h G hG (fun y hy2 => hy y (by omega)), fun q => by omega⟩
    | succ r ih =>
      intro i G hi hG hy
      have e5 := hG 53 5 (by omega)
      have e60 : G 60 = g 60 := funext fun q => hG 60 q (by omega)
      have nx : ∀ v : Int, v = abvI (g 60) k i → V miX12_marks (d + 1) 2 [(0, .ref 53), (1, I_ (k : Int)), (2, I_ ((i : Int) + 1))] [] n (W0 dy) (up2 G 75 ((i : Nat) : Int).toNat v) 0 0 P := fun v hv => by
        rw [show ((i : Nat) : Int) + 1 = ((i + 1 : Nat) : Int) by omega]
        refine ih (i + 1) _ (by omega) (fun x q hx => ?_) (fun y hy2 => ?_)
        · rw [up2_i hx]; exact hG x q hx
        · rw [up2_ap]
          show (if 75 = 75 ∧ y = i then v else G 75 y) = _
          by_cases c : y = i
          · rw [if_pos ⟨rfl, c⟩, c]; exact hv
          · rw [if_neg (fun z => c z.2)]; exact hy y (by omega)
      refine bX12_marks_2 hn ⟨⟨by omega, by omega⟩, fun q => by omega, fun _ => ?_⟩
      refine spX12_isAbove hn (hF.mv e5 e60) ⟨by omega, by omega⟩ (by omega) (by omega) ⟨fun c => ?_, fun c => ?_⟩
      · rw [e60] at c
        exact bX12_marks_21 hn ⟨by omega, by decide, Or.inl rfl, nx 0 c.symm⟩
      · rw [e60] at c
        exact bX12_marks_21 hn ⟨by omega, by decide, Or.inr rfl, nx 1 c.symm⟩
  exact wX12_marks hn (key (g 53 5).toNat 0 g (by omega) (fun _ _ _ => rfl) (fun y hy => by omega))
theorem rs_lowest {x1 : Int} (hn : 100 ≤ n) (hI : Inv g) (h1 : i3 x1) (h : ∀ v g' a', opLowest (up2 (up2 g 53 1 0) 53 0 0) x1 = (v, a') → rz g' = rz a' → Kc (up2 (up2 g 53 1 0) 53 0 0) g' → P (some (I_ v)) n (W0 dy) g') : Runs miX12_lowest (d + 2) [.ref 53, I_ x1] n (W0 dy) g P := by
  have hI1 : Inv (up2 g 53 1 0) := hI
  refine wX12_lowest hn ?_
  generalize (up2 g 53 1 0) = g1 at h hI1 ⊢
  clear hI
  refine spX12_topped hn hI1.1.2 h1 (bX12_lowest_11 hn ⟨?_, fun q => ?_, fun q => ?_⟩)
  · unfold topI; split
    · decide
    · split <;> decide
  · have c : topI g1 x1 = 0 := by
      unfold topI at q ⊢
      split at q
      · omega
      · rename_i z
        rw [if_neg z]
        split at q
        · omega
        · rename_i z2
          rw [if_neg z2]
    rw [c]
    obtain ⟨c1, c2, c3⟩ := topI_0 c
    obtain ⟨k, rfl⟩ := exN c1
    have hI2 : Inv (up2 g1 53 0 0) := hI1
    have ct : topI (up2 g1 53 0 0) (k : Int) = 0 := c
    have c2' : (k : Int) < up2 g1 53 0 0 53 5 := c2
    generalize (up2 g1 53 0 0) = a at h hI2 ct c2' ⊢
    clear q c c1 c2 c3 hI1
    have hF : RF a := ⟨hI2.1, hI2.dp⟩
    have hN := hF.1
    have eop : opLowest a (k : Int) = (lowF a k (a 53 5).toNat, a) := by
      unfold opLowest; exact if_neg (by rw [ct]; omega)
    rw [eop] at h
    refine rs_marks hn hF c2' fun G hG hM => bX12_lowest_28 hn ?_
    have e5 := hG 53 5 (by omega)
    have e60 : G 60 = a 60 := funext fun q => hG 60 q (by omega)
    have e62 : G 62 = a 62 := funext fun q => hG 62 q (by omega)
    have hFG := hF.mv e5 e60
    have hz : rz G = rz a := rz_eq fun i q hl => hG i q (by unfold rl at hl; simp at hl; omega)
    have hkc : Kc a G := fun i q hi => hG i q (by omega)
    have key : ∀ r i : Nat, (r : Int) + i = a 53 5 → V miX12_lowest (d + 2) 32 [(0, .ref 53), (1, I_ (k : Int)), (2, I_ (lowF a k i)), (3, I_ (i : Int))] [] n (W0 dy) G 0 0 P := by
      intro r
      induction r with
      | zero =>
        intro i hi
        refine bX12_lowest_32 hn ⟨⟨by omega, by omega⟩, fun _ => ?_, fun q => by omega⟩
        rw [show i = (a 53 5).toNat by omega]
        exact h _ _ _ rfl hz hkc
      | succ r ih =>
        intro i hi
        have nx : ∀ v : Int, lowF a k (i + 1) = v → V miX12_lowest (d + 2) 32 [(0, .ref 53), (1, I_ (k : Int)), (2, I_ v), (3, I_ ((i : Int) + 1))] [] n (W0 dy) G 0 0 P := fun v hv => by
          rw [show ((i : Nat) : Int) + 1 = ((i + 1 : Nat) : Int) by omega, ← hv]
          exact ih (i + 1) (by omega)
        have em : G 75 ((i : Nat) : Int).toNat = abvI (a 60) k i := hM i (by omega)
        refine bX12_lowest_32 hn ⟨⟨by omega, by omega⟩, fun q => by omega, fun _ => ⟨by omega, fun q => ?_, fun q => ?_⟩⟩
        · rw [em] at q
          refine nx _ (if_neg fun z => ?_)
          unfold abvI at q
          rw [if_pos z] at q; omega
        · rw [em] at q
          have ab := abvI_t q
          have un : lowF a k (i + 1) = if lowF a k i < 0 then (i : Int) else if hh a (lowF a k i).toNat < hh a i then (i : Int) else lowF a k i := if_pos ab
          rcases lowF_sp a k i with ⟨e, -⟩ | ⟨w, e, w1, -, -⟩
          · rw [e] at un ⊢
            exact ⟨by decide, fun _ => nx _ (by rw [un, if_pos (by omega)]), fun z => by omega⟩
          · rw [e] at un ⊢
            rw [if_neg (by omega)] at un
            have un : lowF a k (i + 1) = if hh a w < hh a i then (i : Int) else (w : Int) := un
            have bi := hh_b hI2 (y := i) (by omega)
            have bw := hh_b hI2 (y := w) (by omega)
            refine ⟨⟨by omega, by omega⟩, fun z => by omega, fun _ => ?_⟩
            refine spX12_heightOf hn hFG (by omega) (bX12_lowest_58 hn (spX12_heightOf hn hFG (by omega) ?_))
            rw [e60, e62]
            refine bX12_lowest_63 (xs0 := hh a i) (xs1 := hh a w) hn ⟨⟨by omega, by omega⟩, ⟨by omega, by omega⟩, fun z => nx _ ?_, fun z => nx _ ?_⟩
            · rw [un, if_neg (by omega)]
            · rw [un, if_pos z]
    exact key (a 53 5).toNat 0 (by omega)
  · have e : up2 g1 53 0 (topI g1 x1) = up2 (up2 g1 53 0 0) 53 0 (topI g1 x1) := by rw [up2_up]
    rw [e]
    refine h _ _ _ ?_ rfl ((Kc.refl _).up (by omega))
    unfold opLowest; exact if_pos q
theorem lowF_cg {a b : Hp} (e60 : a 60 = b 60) (e62 : a 62 = b 62) (k : Nat) : ∀ m, lowF a k m = lowF b k m
  | 0 => rfl
  | m + 1 => by
    unfold lowF hh
    rw [lowF_cg e60 e62 k m, e60, e62]
theorem opLowest_cg {g g1 : Hp} (h : rz g1 = rz g) (x1 : Int) : (opLowest g1 x1).1 = (opLowest g x1).1 ∧ rz (opLowest g1 x1).2 = rz (opLowest g x1).2 := by
  have e60 := rz_row (i := 60) h (fun _ => rfl)
  have e62 := rz_row (i := 62) h (fun _ => rfl)
  have f5 := rz_of h (i := 53) (q := 5) rfl
  unfold opLowest topI
  rw [e60, f5, lowF_cg e60 e62]
  generalize (if x1 < 0 ∨ g 53 5 ≤ x1 then (2 : Int) else if 0 ≤ g 60 x1.toNat then 8 else 0) = T
  split
  · exact ⟨rfl, by show rz (up2 g1 53 0 T) = rz (up2 g 53 0 T); rw [rz_f0, rz_f0, h]⟩
  · exact ⟨rfl, h⟩
theorem inv_lowest {a : Hp} (hI : Inv a) (x1 : Int) : Inv (opLowest a x1).2 := by
  unfold opLowest
  split
  · exact hI.st _
  · exact hI
end Lowest2
