/-! POUR: the reference -/
/-- m numbers of row 56 from s on, put from t on -/
def mv6 (a : Hp) (s t m : Nat) : Hp := fun i q => if i = 56 ∧ (t ≤ q ∧ q < t + m) then a 56 (s + (q - t)) else a i q
def prI (a : Hp) (x1 x2 x3 x4 x5 : Int) : Int :=
  if x1 < 0 ∨ 6 ≤ x1 ∨ x3 < 0 ∨ 6 ≤ x3 then 1 else if a 55 x1.toNat < 0 ∨ a 55 x3.toNat < 0 then 3 else if a 54 x1.toNat ≠ a 54 x3.toNat then 12 else if x5 < 0 then 6 else if x2 < 0 ∨ x4 < 0 ∨ a 55 x1.toNat < x2 + x5 ∨ a 55 x3.toNat < x4 + x5 then 4 else 0
def opPour (a : Hp) (x1 x2 x3 x4 x5 : Int) : Int × Hp :=
  if prI a x1 x2 x3 x4 x5 ≠ 0 then (0, up2 a 53 0 (prI a x1 x2 x3 x4 x5)) else (1, mv6 a (16 * x1.toNat + x2.toNat) (16 * x3.toNat + x4.toNat) x5.toNat)
section Pour
variable {d n : Nat} {dy : Nat → Shp} {g a G : Hp} {P : Pst}
theorem rs_pour_loop {x1 x2 x3 x4 m : Nat} {x6 : Int} (hn : 100 ≤ n) (h1 : x1 < 6) (h3 : x3 < 6) (h2 : x2 + m ≤ 16) (h4 : x4 + m ≤ 16) (h6 : (x6 = 0 ∧ x4 ≤ x2) ∨ (x6 = 1 ∧ x2 < x4)) (h : P (some (I_ 1)) n (W0 dy) (mv6 a (16 * x1 + x2) (16 * x3 + x4) m)) : V miX12_pour (d + 1) 160 [(0, .ref 53), (1, I_ (x1 : Int)), (2, I_ (x2 : Int)), (3, I_ (x3 : Int)), (4, I_ (x4 : Int)), (5, I_ (m : Int)), (6, I_ x6), (7, I_ 0)] [] n (W0 dy) a 0 0 P := by
  generalize hs : 16 * x1 + x2 = s at h
  generalize ht : 16 * x3 + x4 = t at h
  have key : ∀ (u k : Nat) (G : Hp), u + k = m → (∀ i q, i ≠ 56 → G i q = a i q) → (∀ q : Nat, G 56 q = if (x6 = 0 ∧ t ≤ q ∧ q < t + k) ∨ (x6 ≠ 0 ∧ t + (m - k) ≤ q ∧ q < t + m) then a 56 (s + (q - t)) else a 56 q) → V miX12_pour (d + 1) 160 [(0, .ref 53), (1, I_ (x1 : Int)), (2, I_ (x2 : Int)), (3, I_ (x3 : Int)), (4, I_ (x4 : Int)), (5, I_ (m : Int)), (6, I_ x6), (7, I_ (k : Int))] [] n (W0 dy) G 0 0 P := by
    intro u
    induction u with
    | zero =>
      intro k G hk hG h56
      refine bX12_pour_160 hn ⟨⟨by omega, by omega⟩, ⟨by omega, by omega⟩, fun _ => ?_, fun q => by omega⟩
      have e : G = mv6 a s t m := by
        funext i q
        unfold mv6
        by_cases c : i = 56
        · rw [c, h56 q]
          by_cases z : t ≤ q ∧ q < t + m
          · rw [if_pos (by rcases h6 with w | w <;> omega), if_pos ⟨rfl, z⟩]
          · rw [if_neg (by rcases h6 with w | w <;> omega), if_neg fun w => z w.2]
        · rw [hG i q c, if_neg fun w => c w.1]
      rw [e]; exact h
    | succ u ih =>
      intro k G hk hG h56
      have nx : ∀ (j : Nat), (x6 = 0 → j = k) → (x6 ≠ 0 → j + k + 1 = m) → V miX12_pour (d + 1) 160 [(0, .ref 53), (1, I_ (x1 : Int)), (2, I_ (x2 : Int)), (3, I_ (x3 : Int)), (4, I_ (x4 : Int)), (5, I_ (m : Int)), (6, I_ x6), (7, I_ ((k : Int) + 1))] [] n (W0 dy) (up2 G 56 (t + j) (G 56 (s + j))) 0 0 P := fun j j0 j1 => by
        rw [show ((k : Nat) : Int) + 1 = ((k + 1 : Nat) : Int) by omega]
        have src : G 56 (s + j) = a 56 (s + j) := by
          rw [h56, if_neg]
          rcases h6 with w | w
          · have := j0 w.1
            omega
          · have := j1 (by omega)
            omega
        refine ih (k + 1) _ (by omega) (fun i q hi => (up2_i hi).trans (hG i q hi)) fun q => ?_
        rw [up2_k, src]
        by_cases c : q = t + j
        · rw [if_pos c, if_pos]
          · rw [c, show t + j - t = j by omega]
          · rcases h6 with w | w
            · have := j0 w.1
              exact Or.inl ⟨w.1, by omega, by omega⟩
            · have := j1 (by omega)
              exact Or.inr ⟨by omega, by omega, by omega⟩
        · rw [if_neg c, h56 q]
          by_cases z : (x6 = 0 ∧ t ≤ q ∧ q < t + k) ∨ (x6 ≠ 0 ∧ t + (m - k) ≤ q ∧ q < t + m)
          · rw [if_pos z, if_pos (by omega)]
          · rw [if_neg z, if_neg]
            rcases h6 with w | w
            · have := j0 w.1
              omega
            · have := j1 (by omega)
              omega
      refine bX12_pour_160 hn ⟨⟨by omega, by omega⟩, ⟨by omega, by omega⟩, fun q => by omega, fun _ => ⟨by rcases h6 with w | w <;> (rw [w.1]; decide), fun q => ?_, fun q => ?_⟩⟩
      · rw [show ((16 * (x1 : Int) + (x2 : Int)) + (k : Int)) = ((s + k : Nat) : Int) by omega, show ((16 * (x3 : Int) + (x4 : Int)) + (k : Int)) = ((t + k : Nat) : Int) by omega]
        refine ⟨⟨by omega, by omega⟩, fun w hw => ⟨⟨by omega, by omega⟩, ?_⟩⟩
        rw [hw]
        exact nx k (fun _ => rfl) (fun z => absurd q z)
      · rw [show ((16 * (x1 : Int) + (x2 : Int)) + (((m : Int) - 1) - (k : Int))) = ((s + (m - 1 - k) : Nat) : Int) by omega, show ((16 * (x3 : Int) + (x4 : Int)) + (((m : Int) - 1) - (k : Int))) = ((t + (m - 1 - k) : Nat) : Int) by omega]
        refine ⟨⟨by omega, by omega⟩, fun w hw => ⟨⟨by omega, by omega⟩, ?_⟩⟩
        rw [hw]
        exact nx (m - 1 - k) (fun z => absurd z q) (fun _ => by omega)
  refine key m 0 a (by omega) (fun _ _ _ => rfl) fun q => ?_
  rw [if_neg (by omega)]
theorem rs_pour {x1 x2 x3 x4 x5 : Int} (hn : 100 ≤ n) (hI : Inv g) (h1 : i3 x1) (h2 : i3 x2) (h3 : i3 x3) (h4 : i3 x4) (h5 : i3 x5) (h : ∀ v g', opPour (up2 (up2 g 53 1 0) 53 0 0) x1 x2 x3 x4 x5 = (v, g') → P (some (I_ v)) n (W0 dy) g') : Runs miX12_pour (d + 1) [.ref 53, I_ x1, I_ x2, I_ x3, I_ x4, I_ x5] n (W0 dy) g P := by
  have hT : ∀ t : Nat, t < 6 → TI (up2 (up2 g 53 1 0) 53 0 0) t := hI.2.1
  have f54 : ∀ q, g 54 q = up2 (up2 g 53 1 0) 53 0 0 54 q := fun _ => rfl
  have f55 : ∀ q, g 55 q = up2 (up2 g 53 1 0) 53 0 0 55 q := fun _ => rfl
  refine wX12_pour hn ⟨h1, ?_⟩
  simp only [f54, f55]
  clear f54 f55
  generalize (up2 (up2 g 53 1 0) 53 0 0) = a at h hT ⊢
  have no : ∀ T : Int, i3 T → T ≠ 0 → prI a x1 x2 x3 x4 x5 = T → ∀ (Q : Pst), (∀ G, P (some (I_ 0)) n (W0 dy) G → Q (some (I_ 0)) n (W0 dy) G) → Runs miX12_no d [.ref 53, I_ T] n (W0 dy) a Q := fun T hT3 hT0 e Q hQ => by
    have e2 : opPour a x1 x2 x3 x4 x5 = (0, up2 a 53 0 T) := by
      unfold opPour
      rw [e]; exact if_pos hT0
    rw [e2] at h
    exact wX12_no hn ⟨hT3, hQ _ (h _ _ rfl)⟩
  have un : prI a x1 x2 x3 x4 x5 = if x1 < 0 ∨ 6 ≤ x1 ∨ x3 < 0 ∨ 6 ≤ x3 then 1 else if a 55 x1.toNat < 0 ∨ a 55 x3.toNat < 0 then 3 else if a 54 x1.toNat ≠ a 54 x3.toNat then 12 else if x5 < 0 then 6 else if x2 < 0 ∨ x4 < 0 ∨ a 55 x1.toNat < x2 + x5 ∨ a 55 x3.toNat < x4 + x5 then 4 else 0 := rfl
  have n1 : (x1 < 0 ∨ 6 ≤ x1 ∨ x3 < 0 ∨ 6 ≤ x3) → Runs miX12_no d [.ref 53, I_ 1] n (W0 dy) a (fun v n' S' g' => V miX12_pour (d + 1) 35 [(0, .ref 53), (1, I_ x1), (2, I_ x2), (3, I_ x3), (4, I_ x4), (5, I_ x5)] (v.toList ++ []) n' S' g' 0 0 P) := fun c => no 1 (by decide) (by decide) (by rw [un, if_pos c]) _ fun G hp => bX12_pour_35 hn ⟨Or.inl rfl, hp⟩
  refine ⟨fun c => n1 (by omega), fun c1 => ⟨fun c => n1 (by omega), fun c2 => ⟨h3, fun c => n1 (by omega), fun c3 => ⟨fun c4 => ?_, fun c => n1 (by omega)⟩⟩⟩⟩
  rw [if_neg (by omega)] at un
  clear n1
  have n3 : (a 55 x1.toNat < 0 ∨ a 55 x3.toNat < 0) → Runs miX12_no d [.ref 53, I_ 3] n (W0 dy) a (fun v n' S' g' => V miX12_pour (d + 1) 59 [(0, .ref 53), (1, I_ x1), (2, I_ x2), (3, I_ x3), (4, I_ x4), (5, I_ x5)] (v.toList ++ []) n' S' g' 0 0 P) := fun c => no 3 (by decide) (by decide) (by rw [un, if_pos c]) _ fun G hp => bX12_pour_59 hn ⟨Or.inl rfl, hp⟩
  refine ⟨⟨c1, c2⟩, fun c => n3 (Or.inl c), fun c5 => ⟨⟨c3, c4⟩, fun c6 => ?_, fun c => n3 (Or.inr c)⟩⟩
  rw [if_neg (by omega)] at un
  clear n3
  refine ⟨fun c7 => ⟨h5, fun c8 => ⟨h2, ?_⟩, fun c => no 6 (by decide) (by decide) (by rw [un, if_neg (fun z => z c7), if_pos c]) _ fun G hp => bX12_pour_93 hn ⟨Or.inl rfl, hp⟩⟩, fun c => no 12 (by decide) (by decide) (by rw [un, if_pos c]) _ fun G hp => bX12_pour_81 hn ⟨Or.inl rfl, hp⟩⟩
  rw [if_neg (fun z => z c7), if_neg (by omega)] at un
  have n4 : (x2 < 0 ∨ x4 < 0 ∨ a 55 x1.toNat < x2 + x5 ∨ a 55 x3.toNat < x4 + x5) → Runs miX12_no d [.ref 53, I_ 4] n (W0 dy) a (fun v n' S' g' => V miX12_pour (d + 1) 143 [(0, .ref 53), (1, I_ x1), (2, I_ x2), (3, I_ x3), (4, I_ x4), (5, I_ x5)] (v.toList ++ []) n' S' g' 0 0 P) := fun c => no 4 (by decide) (by decide) (by rw [un, if_pos c]) _ fun G hp => bX12_pour_143 hn ⟨Or.inl rfl, hp⟩
  refine ⟨fun c => n4 (Or.inl c), fun c9 => ⟨h4, fun c => n4 (Or.inr (Or.inl c)), fun c10 => ⟨⟨by omega, by omega⟩, fun c => n4 (Or.inr (Or.inr (Or.inl c))), fun c11 => ⟨⟨by omega, by omega⟩, fun c12 => ?_, fun c => n4 (Or.inr (Or.inr (Or.inr c)))⟩⟩⟩⟩
  rw [if_neg (by omega)] at un
  have t1 : a 55 x1.toNat ≤ 16 := by
    have := hT x1.toNat (by omega)
    unfold TI at this; omega
  have t3 : a 55 x3.toNat ≤ 16 := by
    have := hT x3.toNat (by omega)
    unfold TI at this; omega
  have e2 : opPour a x1 x2 x3 x4 x5 = (1, mv6 a (16 * x1.toNat + x2.toNat) (16 * x3.toNat + x4.toNat) x5.toNat) := by
    unfold opPour
    rw [un]; exact if_neg (fun z => z rfl)
  rw [e2] at h
  have hf := h _ _ rfl
  obtain ⟨y1, rfl⟩ := exN c1
  obtain ⟨y2, rfl⟩ := exN c9
  obtain ⟨y3, rfl⟩ := exN c3
  obtain ⟨y4, rfl⟩ := exN c10
  obtain ⟨y5, rfl⟩ := exN c8
  exact ⟨fun z => rs_pour_loop hn (by omega) (by omega) (by omega) (by omega) (Or.inl ⟨rfl, by omega⟩) hf, fun z => rs_pour_loop hn (by omega) (by omega) (by omega) (by omega) (Or.inr ⟨rfl, by omega⟩) hf⟩
theorem prI_rz {g g1 : Hp} (h : rz g1 = rz g) (x1 x2 x3 x4 x5 : Int) : prI g1 x1 x2 x3 x4 x5 = prI g x1 x2 x3 x4 x5 := by
  unfold prI
  rw [rz_row (i := 54) h (fun _ => rfl), rz_row (i := 55) h (fun _ => rfl)]
theorem opPour_cg {g g1 : Hp} (h : rz g1 = rz g) (x1 x2 x3 x4 x5 : Int) : (opPour g1 x1 x2 x3 x4 x5).1 = (opPour g x1 x2 x3 x4 x5).1 ∧ rz (opPour g1 x1 x2 x3 x4 x5).2 = rz (opPour g x1 x2 x3 x4 x5).2 := by
  unfold opPour
  rw [prI_rz h]
  split
  · exact ⟨rfl, by show rz (up2 g1 53 0 _) = rz (up2 g 53 0 _); rw [rz_f0, rz_f0, h]⟩
  · refine ⟨rfl, rz_eq fun i q hl => ?_⟩
    show mv6 g1 (16 * x1.toNat + x2.toNat) (16 * x3.toNat + x4.toNat) x5.toNat i q = mv6 g (16 * x1.toNat + x2.toNat) (16 * x3.toNat + x4.toNat) x5.toNat i q
    unfold mv6
    split
    · exact rz_of h rfl
    · exact rz_of h hl
theorem opPour_kc (g : Hp) (x1 x2 x3 x4 x5 : Int) : Kc g (opPour g x1 x2 x3 x4 x5).2 := by
  unfold opPour
  split
  · exact (Kc.refl g).up (by omega)
  · intro i q hi
    show mv6 g _ _ _ i q = g i q
    unfold mv6
    rw [if_neg (by omega)]
theorem inv_pour {a : Hp} (hI : Inv a) (x1 x2 x3 x4 x5 : Int) : Inv (opPour a x1 x2 x3 x4 x5).2 := by
  unfold opPour
  split
  · exact hI.st _
  · exact ⟨hI.1, hI.2.1, hI.2.2.1, hI.2.2.2.1, hI.2.2.2.2.1, hI.2.2.2.2.2⟩
end Pour
