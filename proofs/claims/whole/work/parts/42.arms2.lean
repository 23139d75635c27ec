/-! ARMS: the reference; reach -/
section Arms2
variable {d n : Nat} {dy : Nat → Shp} {g a : Hp} {P : Pst}
theorem abv_dp {N : Int} {on : Nat → Int} {dp : Nat → Nat} (hD : DP N on dp) (hN : N ≤ 60) {r : Nat} : ∀ (f j : Nat), dp j = f → (j : Int) < N → abv on r 60 j = true → j ≠ r → dp r < dp j ∧ 0 ≤ on j ∧ abv on r 60 (on j).toNat = true := by
  intro f
  induction f with
  | zero =>
    intro j hf hj hab hne
    rw [abv_eq hD hN hj, if_neg hne] at hab
    by_cases c : on j < 0
    · rw [if_pos c] at hab; cases hab
    · have := (hD j hj).2.2.2 (by omega); omega
  | succ f ih =>
    intro j hf hj hab hne
    rw [abv_eq hD hN hj, if_neg hne] at hab
    by_cases c : on j < 0
    · rw [if_pos c] at hab; cases hab
    · rw [if_neg c] at hab
      have h1 := (hD j hj).2.2.2 (by omega)
      refine ⟨?_, by omega, hab⟩
      by_cases e : (on j).toNat = r
      · rw [← e]; omega
      · have := ih (on j).toNat (by omega) (by have := (hD j hj).1; omega) hab e
        omega
theorem spX12_arm {r : Nat} {e : Int} {G : Hp} (hn : 100 ≤ n) (hI : Inv g) (hr : (r : Int) < g 53 5) (hk : g 57 r = 2 ∨ g 57 r = 3) (he : i3 e) (e59 : G 59 r = g 59 r) (e64 : G 64 r = g 64 r) (e65 : G 65 r = g 65 r) (h : P (some (I_ (armI g r e))) n (W0 dy) G) : Runs miX12_arm d [.ref 53, I_ (r : Int), I_ e] n (W0 dy) G P := by
  obtain ⟨h1, h2, h3, h4, h5, h6⟩ := rod_b hI hr hk
  have hN := hI.1.2
  refine wX12_arm hn ⟨⟨by omega, by omega⟩, ?_⟩
  show i6 (G 59 r * G 64 r) ∧ G 65 r ≠ 0 ∧ ∀ y : Int, y = (G 59 r * G 64 r).tdiv (G 65 r) → i3 e ∧ (e ≠ 0 → P (some (I_ (G 59 r - y))) n (W0 dy) G) ∧ (e = 0 → P (some (I_ y)) n (W0 dy) G)
  rw [e59, e64, e65]
  refine ⟨⟨by omega, by omega⟩, by omega, fun y ey => ⟨he, fun c => ?_, fun c => ?_⟩⟩
  · unfold armI at h; rw [if_neg c, ← ey] at h; exact h
  · unfold armI at h; rw [if_pos c, ← ey] at h; exact h
theorem spX12_isWhole {r : Nat} {G : Hp} (hn : 100 ≤ n) (hI : Inv g) (hr : (r : Int) < g 53 5) (hk : g 57 r = 2 ∨ g 57 r = 3) (e59 : G 59 r = g 59 r) (e64 : G 64 r = g 64 r) (e65 : G 65 r = g 65 r) (h : P (some (I_ (whI g r))) n (W0 dy) G) : Runs miX12_isWhole d [.ref 53, I_ (r : Int)] n (W0 dy) G P := by
  obtain ⟨h1, h2, h3, h4, h5, h6⟩ := rod_b hI hr hk
  have hN := hI.1.2
  refine wX12_isWhole hn ⟨⟨by omega, by omega⟩, ?_⟩
  show i6 (G 59 r * G 64 r) ∧ G 65 r ≠ 0 ∧ i6 ((G 59 r * G 64 r).tmod (G 65 r)) ∧ ((G 59 r * G 64 r).tmod (G 65 r) ≠ 0 → P (some (I_ 0)) n (W0 dy) G) ∧ ((G 59 r * G 64 r).tmod (G 65 r) = 0 → P (some (I_ 1)) n (W0 dy) G)
  rw [e59, e64, e65]
  refine ⟨⟨by omega, by omega⟩, by omega, ⟨by omega, by omega⟩, fun c => ?_, fun c => ?_⟩
  · unfold whI at h; rw [if_neg c] at h; exact h
  · unfold whI at h; rw [if_pos c] at h; exact h
/-- all but the three fields that arms() writes -/
def Ka (g G : Hp) : Prop := ∀ i q, (i ≠ 53 ∨ (q ≠ 32 ∧ q ≠ 33 ∧ q ≠ 34)) → G i q = g i q
theorem Ka.up {g G : Hp} (h : Ka g G) {q : Nat} {x : Int} (hq : q = 32 ∨ q = 33 ∨ q = 34) : Ka g (up2 G 53 q x) := fun i k hi => by
  rw [up2_ap, if_neg (by omega)]; exact h i k hi
theorem rs_arms {x r : Nat} {w : Int} (hn : 100 ≤ n) (hI : Inv g) (hx : (x : Int) < g 53 5) (hr : (r : Int) < g 53 5) (hab : abv (g 60) r 60 x = true) (hw : w = 0 ∨ w = 1) (hxr : w = 0 → x ≠ r) (h : ∀ g', Ka g g' → (g' 53 32 = (msr g (if w = 0 then (r : Int) else g 60 r) 60 x (1, 0, 0)).1 ∧ g' 53 33 = (msr g (if w = 0 then (r : Int) else g 60 r) 60 x (1, 0, 0)).2.1 ∧ g' 53 34 = (msr g (if w = 0 then (r : Int) else g 60 r) 60 x (1, 0, 0)).2.2) → P none n (W0 dy) g') : Runs miX12_arms (d + 1) [.ref 53, I_ (x : Int), I_ (r : Int), I_ w] n (W0 dy) g P := by
  obtain ⟨dp, hD⟩ := hI.dp
  have hN := hI.1.2
  generalize hT : msr g (if w = 0 then (r : Int) else g 60 r) 60 x (1, 0, 0) = T at h
  have key : ∀ (f j : Nat) (G : Hp) (t : Int × Int × Int), dp j = f → (j : Int) < g 53 5 → abv (g 60) r 60 j = true → Ka g G → (G 53 32 = t.1 ∧ G 53 33 = t.2.1 ∧ G 53 34 = t.2.2) → (0 ≤ t.2.1 ∧ t.2.1 + 1000 * f ≤ 60000) → ((w = 1 ∨ j ≠ r) → msr g (if w = 0 then (r : Int) else g 60 r) 60 j t = T) → ((w = 0 ∧ j = r) → t = T) → V miX12_arms (d + 1) 18 [(0, .ref 53), (1, I_ (x : Int)), (2, I_ (r : Int)), (3, I_ w), (4, I_ (j : Int))] [] n (W0 dy) G 0 0 P := by
    intro f
    induction f with
    | zero =>
      intro j G t hf hj ha hG ht hb hm hm0
      have ej : j = r := by
        by_cases e : j = r
        · exact e
        · have := (abv_dp hD hN 0 j hf hj ha e).1; omega
      have et : t = T := by
        rcases hw with e | e
        · exact hm0 ⟨e, ej⟩
        · have := hm (Or.inl e)
          rw [msr_eq hD hN hj, if_pos (Or.inr (by rw [if_neg (by omega), ej]))] at this
          exact this
      exact bX12_arms_18 hn ⟨⟨by omega, by omega⟩, ⟨by omega, by omega⟩, fun _ => h G hG (by rw [← et]; exact ht), fun q => absurd (by rw [ej]) q⟩
    | succ f ih =>
      intro j G t hf hj ha hG ht hb hm hm0
      by_cases ej : j = r
      · have et : t = T := by
          rcases hw with e | e
          · exact hm0 ⟨e, ej⟩
          · have := hm (Or.inl e)
            rw [msr_eq hD hN hj, if_pos (Or.inr (by rw [if_neg (by omega), ej]))] at this
            exact this
        exact bX12_arms_18 hn ⟨⟨by omega, by omega⟩, ⟨by omega, by omega⟩, fun _ => h G hG (by rw [← et]; exact ht), fun q => absurd (by rw [ej]) q⟩
      · obtain ⟨b1, b2, b3⟩ := abv_dp hD hN (f + 1) j hf hj ha ej
        have hon := (hD j hj).1
        have hdj := (hD j hj).2.2.2 b2
        have hPI := ((hI.2.2.1 j hj).1.2.2.1 b2)
        have e60 : G 60 j = g 60 j := hG 60 j (Or.inl (by decide))
        have e61 : G 61 j = g 61 j := hG 61 j (Or.inl (by decide))
        have mm := hm (Or.inr ej)
        rw [msr_eq hD hN hj] at mm
        obtain ⟨s, es⟩ := exN b2
        rw [es] at mm b3 hdj hon e60 hPI
        have mm : (if (s : Int) < 0 ∨ (s : Int) = (if w = 0 then (r : Int) else g 60 r) then t else msr g (if w = 0 then (r : Int) else g 60 r) 60 s (if t.1 = 0 then 0 else whI g s, t.2.1 + armI g s (g 61 j), max t.2.2 (armI g s (g 61 j)))) = T := mm
        have b3 : abv (g 60) r 60 s = true := b3
        have hdj : dp j = dp s + 1 := hdj
        have hsN : (s : Int) < g 53 5 := hon.2
        have hrod : g 57 s = 2 ∨ g 57 s = 3 := hPI.2.1
        have at1 : i3 (g 61 j) := by
          rcases hPI.2.2 with y | y <;> omega
        have ab := armI_b hI hsN hrod (g 61 j)
        have wb := whI_b (a := g) s
        have f59 : ∀ G', Ka g G' → G' 59 s = g 59 s := fun G' hh => hh 59 s (Or.inl (by decide))
        have f64 : ∀ G', Ka g G' → G' 64 s = g 64 s := fun G' hh => hh 64 s (Or.inl (by decide))
        have f65 : ∀ G', Ka g G' → G' 65 s = g 65 s := fun G' hh => hh 65 s (Or.inl (by decide))
        clear hPI hon
        -- the rod s is counted
        have cnt : ¬ (w = 0 ∧ s = r) → msr g (if w = 0 then (r : Int) else g 60 r) 60 s (if t.1 = 0 then 0 else whI g s, t.2.1 + armI g s (g 61 j), max t.2.2 (armI g s (g 61 j))) = T := fun c => by
          rw [if_neg] at mm
          · exact mm
          · intro z
            rcases z with z | z
            · omega
            · by_cases e : w = 0
              · rw [if_pos e] at z
                exact c ⟨e, by omega⟩
              · rw [if_neg e] at z
                have := (hD r hr).2.2.2 (by omega)
                rw [← z] at this
                have : dp r = dp s + 1 := this
                omega
        have after : ∀ (w' : Int) (G' : Hp), ¬ (w = 0 ∧ s = r) → w' = (if t.1 = 0 then 0 else whI g s) → Ka g G' → (G' 53 32 = w' ∧ G' 53 33 = t.2.1 ∧ G' 53 34 = t.2.2) → Runs miX12_arm d [.ref 53, I_ (s : Int), I_ (g 61 j)] n (W0 dy) G' (fun v n' S' g' => V miX12_arms (d + 1) 81 [(0, .ref 53), (1, I_ (x : Int)), (2, I_ (r : Int)), (3, I_ w), (4, I_ (j : Int)), (5, I_ (s : Int))] (v.toList ++ []) n' S' g' 0 0 P) := fun w' G' c ew hG' ht' => by
          refine spX12_arm hn hI hsN hrod at1 (f59 G' hG') (f64 G' hG') (f65 G' hG') ?_
          have cc := cnt c
          generalize armI g s (g 61 j) = y at *
          refine bX12_arms_81 hn ⟨⟨by rw [ht'.2.1]; omega, by rw [ht'.2.1]; omega⟩, ⟨by omega, by omega⟩, ?_⟩
          refine ih s _ (w', t.2.1 + y, max t.2.2 y) (by omega) hsN b3 ((hG'.up (by omega)).up (by omega)) ⟨?_, ?_, ?_⟩ (by show 0 ≤ t.2.1 + y ∧ t.2.1 + y + 1000 * f ≤ 60000; omega) (fun _ => by rw [ew]; exact cc) (fun z => absurd z c)
          · rw [up2_k, if_neg (by omega), up2_k, if_neg (by omega)]; exact ht'.1
          · rw [up2_k, if_neg (by omega), up2_s, ht'.2.1]
          · rw [up2_s, ht'.2.2]
        have count : ¬ (w = 0 ∧ s = r) → ((G 53 32 = 0 → Runs miX12_arm d [.ref 53, I_ (s : Int), I_ (g 61 j)] n (W0 dy) (up2 G 53 32 0) (fun v n' S' g' => V miX12_arms (d + 1) 81 [(0, .ref 53), (1, I_ (x : Int)), (2, I_ (r : Int)), (3, I_ w), (4, I_ (j : Int)), (5, I_ (s : Int))] (v.toList ++ []) n' S' g' 0 0 P)) ∧ (G 53 32 ≠ 0 → Runs miX12_isWhole d [.ref 53, I_ (s : Int)] n (W0 dy) G (fun v n' S' g' => V miX12_arms (d + 1) 57 [(0, .ref 53), (1, I_ (x : Int)), (2, I_ (r : Int)), (3, I_ w), (4, I_ (j : Int)), (5, I_ (s : Int))] (v.toList ++ [.ref 53]) n' S' g' 0 0 P))) := fun c => by
          have tt : ∀ w', (up2 G 53 32 w') 53 32 = w' ∧ (up2 G 53 32 w') 53 33 = t.2.1 ∧ (up2 G 53 32 w') 53 34 = t.2.2 := fun w' => ⟨up2_s, by rw [up2_k, if_neg (by omega)]; exact ht.2.1, by rw [up2_k, if_neg (by omega)]; exact ht.2.2⟩
          refine ⟨fun q => after 0 _ c (by rw [if_pos (by rw [← ht.1]; exact q)]) (hG.up (by omega)) (tt 0), fun q => ?_⟩
          refine spX12_isWhole hn hI hsN hrod (f59 G hG) (f64 G hG) (f65 G hG) ?_
          have ww : whI g s = (if t.1 = 0 then 0 else whI g s) := by rw [if_neg (by rw [← ht.1]; exact q)]
          refine bX12_arms_57 hn ⟨by omega, fun q8 => ⟨⟨by omega, by omega⟩, ?_⟩, fun q8 => ⟨⟨by omega, by omega⟩, ?_⟩⟩
          · show Runs miX12_arm d [.ref 53, I_ (s : Int), I_ (G 61 j)] n (W0 dy) (up2 G 53 32 0) _
            rw [e61]
            exact after 0 _ c (by rw [← ww, q8]) (hG.up (by omega)) (tt 0)
          · show Runs miX12_arm d [.ref 53, I_ (s : Int), I_ (G 61 j)] n (W0 dy) (up2 G 53 32 1) _
            rw [e61]
            exact after 1 _ c (by rw [← ww]; omega) (hG.up (by omega)) (tt 1)
        refine bX12_arms_18 hn ⟨⟨by omega, by omega⟩, ⟨by omega, by omega⟩, fun q => absurd (by omega) ej, fun _ => ⟨⟨by omega, by omega⟩, ?_⟩⟩
        show (G 60 j ≠ (r : Int) → _) ∧ (G 60 j = (r : Int) → _)
        rw [show G 60 ((j : Nat) : Int).toNat = (s : Int) from e60, show G 61 ((j : Nat) : Int).toNat = g 61 j from e61, e60]
        refine ⟨fun q => count (fun z => q (by rw [z.2])), fun q => ⟨by omega, fun q2 => ?_, fun q2 => count (fun z => q2 z.1)⟩⟩
        have es' : s = r := by omega
        refine ih s G t (by omega) hsN b3 hG ht ⟨hb.1, by omega⟩ (fun z => by omega) (fun _ => ?_)
        rw [if_pos (Or.inr (by rw [if_pos q2]; exact q))] at mm
        exact mm
  have hdp := (hD x hx).2.1
  refine wX12_arms hn (key _ x _ (1, 0, 0) rfl hx hab ?_ ⟨?_, ?_, ?_⟩ ⟨Int.le_refl 0, ?_⟩ (fun _ => hT) (fun z => absurd z.2 (hxr z.1)))
  · exact Ka.up (Ka.up (Ka.up (fun _ _ _ => rfl) (by omega)) (by omega)) (by omega)
  · rw [up2_k, if_neg (by omega), up2_k, if_neg (by omega), up2_s]
  · rw [up2_k, if_neg (by omega), up2_s]
  · exact up2_s
  · show 0 + 1000 * ((dp x : Nat) : Int) ≤ 60000
    omega
end Arms2
