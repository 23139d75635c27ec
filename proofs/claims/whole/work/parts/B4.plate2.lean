/-! PLATE: the reference, whole -/
section PlateM2
variable {d n : Nat} {dy : Nat → Shp} {g a G : Hp} {P : Pst}
/-- the reading of the corners -/
theorem rs_plate_read {t m : Nat} (hn : 100 ≤ n) (ht : t < 6) (hm : 3 ≤ m ∧ m ≤ 8) (hno : ¬ okN a t m → ∀ G', (∀ i q, i ≠ 79 → i ≠ 80 → G' i q = a i q) → P (some (I_ (-1))) n (W0 dy) (up2 G' 53 0 7)) (hok : okN a t m → ∀ G', (∀ i q, i ≠ 79 → i ≠ 80 → G' i q = a i q) → (∀ i, i < m → G' 79 i = cX a t i ∧ G' 80 i = cY a t i) → Runs miX12_isRing (d + 3) [.ref 53, I_ (m : Int)] n (W0 dy) G' (fun v n' S' g' => V miX12_plate (d + 4) 166 [(0, .ref 53), (1, I_ (t : Int)), (2, I_ (m : Int)), (3, I_ ((2 * m : Nat) : Int))] (v.toList ++ []) n' S' g' 0 0 P)) : V miX12_plate (d + 4) 79 [(0, .ref 53), (1, I_ (t : Int)), (2, I_ (m : Int)), (3, I_ 0)] [] n (W0 dy) a 0 0 P := by
  have key : ∀ (f k : Nat) (G : Hp), k + f = 2 * m → (∀ i q, i ≠ 79 → i ≠ 80 → G i q = a i q) → (∀ j, j < k → (-1000 ≤ a 56 (16 * t + j) ∧ a 56 (16 * t + j) ≤ 1000) ∧ G (if j % 2 = 0 then 79 else 80) (j / 2) = a 56 (16 * t + j)) → V miX12_plate (d + 4) 79 [(0, .ref 53), (1, I_ (t : Int)), (2, I_ (m : Int)), (3, I_ (k : Int))] [] n (W0 dy) G 0 0 P := by
    intro f
    induction f with
    | zero =>
      intro k G hk g1 g2
      have ek : k = 2 * m := by omega
      subst ek
      refine bX12_plate_79 hn ⟨⟨by omega, by omega⟩, ⟨by omega, by omega⟩, fun _ => ?_, fun q => by omega⟩
      refine hok (fun j hj => (g2 j hj).1) G g1 (fun i hi => ⟨?_, ?_⟩)
      · have := (g2 (2 * i) (by omega)).2
        rw [if_pos (by omega), show 2 * i / 2 = i by omega] at this; exact this
      · have := (g2 (2 * i + 1) (by omega)).2
        rw [if_neg (by omega), show (2 * i + 1) / 2 = i by omega] at this; exact this
    | succ f ih =>
      intro k G hk g1 g2
      have bad : ¬ (-1000 ≤ a 56 (16 * t + k) ∧ a 56 (16 * t + k) ≤ 1000) → P (some (I_ (-1))) n (W0 dy) (up2 G 53 0 7) := fun z => hno (fun w => z (w k (by omega))) G g1
      refine bX12_plate_79 hn ⟨⟨by omega, by omega⟩, ⟨by omega, by omega⟩, fun q => by omega, fun _ => ⟨⟨by omega, by omega⟩, fun y ey => ?_⟩⟩
      rw [show (16 * (t : Int) + (k : Int)).toNat = 16 * t + k by omega, g1 56 _ (by omega) (by omega)] at ey
      refine ⟨fun c => wX12_refuse hn ⟨by decide, bX12_plate_123 hn (bad (by omega))⟩, fun c1 => ⟨fun c2 => ?_, fun c => wX12_refuse hn ⟨by decide, bX12_plate_123 hn (bad (by omega))⟩⟩⟩
      have em : ((k : Nat) : Int).tmod 2 = ((k % 2 : Nat) : Int) := by rw [Int.tmod_eq_emod_of_nonneg (by omega)]; omega
      have ed : ((k : Nat) : Int).tdiv 2 = ((k / 2 : Nat) : Int) := by rw [Int.tdiv_eq_ediv_of_nonneg (by omega)]; omega
      rw [em, ed]
      have step : ∀ r, (r = 79 ∧ k % 2 = 0) ∨ (r = 80 ∧ k % 2 = 1) → V miX12_plate (d + 4) 79 [(0, .ref 53), (1, I_ (t : Int)), (2, I_ (m : Int)), (3, I_ ((k : Int) + 1))] [] n (W0 dy) (up2 G r (k / 2) y) 0 0 P := fun r hr => by
        refine ih (k + 1) _ (by omega) (fun i q i1 i2 => by rw [up2_i (by omega), g1 i q i1 i2]) (fun j hj => ?_)
        by_cases e : j = k
        · subst e
          refine ⟨by omega, ?_⟩
          have er : (if j % 2 = 0 then 79 else 80) = r := by split <;> omega
          rw [er, up2_s, ey]
        · refine ⟨(g2 j (by omega)).1, ?_⟩
          rw [← (g2 j (by omega)).2]
          refine if_neg ?_
          rintro ⟨z1, z2⟩
          split at z1 <;> omega
      refine ⟨⟨by omega, by omega⟩, fun q => ⟨⟨by omega, by omega⟩, ⟨by omega, by omega⟩, step 80 (by omega)⟩, fun q => ⟨⟨by omega, by omega⟩, ⟨by omega, by omega⟩, step 79 (by omega)⟩⟩
  exact key (2 * m) 0 a (by omega) (fun _ _ _ _ => rfl) (fun j hj => by omega)
theorem rs_plate {x1 x2 : Int} (hn : 100 ≤ n) (hI : Inv g) (h1 : i3 x1) (h2 : i3 x2) (h : ∀ v g' a', opPlate (up2 (up2 g 53 1 0) 53 0 0) x1 x2 = (v, a') → rz g' = rz a' → Kc (up2 (up2 g 53 1 0) 53 0 0) g' → P (some (I_ v)) n (W0 dy) g') : Runs miX12_plate (d + 4) [.ref 53, I_ x1, I_ x2] n (W0 dy) g P := by
  have hT : ∀ t : Nat, t < 6 → TI (up2 (up2 g 53 1 0) 53 0 0) t := hI.2.1
  have hN : 0 ≤ (up2 (up2 g 53 1 0) 53 0 0) 53 5 ∧ (up2 (up2 g 53 1 0) 53 0 0) 53 5 ≤ 60 := hI.1
  have f55 : ∀ q, g 55 q = up2 (up2 g 53 1 0) 53 0 0 55 q := fun _ => rfl
  refine wX12_plate hn ⟨h1, ?_⟩
  simp only [f55]
  clear f55
  generalize (up2 (up2 g 53 1 0) 53 0 0) = a at h hT hN ⊢
  have no : ∀ T : Int, T ≠ 0 → plI a x1 x2 = T → ∀ G', (∀ i q, i ≠ 79 → i ≠ 80 → G' i q = a i q) → P (some (I_ (-1))) n (W0 dy) (up2 G' 53 0 T) := fun T hT0 e G' hG => by
    have e2 : opPlate a x1 x2 = (-1, up2 a 53 0 T) := by
      unfold opPlate
      rw [e]; exact if_pos hT0
    refine h _ _ _ e2 (rz_eq fun i q hl => ?_) (fun i q hi => ?_)
    · show up2 G' 53 0 T i q = up2 a 53 0 T i q
      unfold up2
      split
      · rfl
      · exact hG i q (by rintro rfl; exact absurd (show false = true from hl) (by decide)) (by rintro rfl; exact absurd (show false = true from hl) (by decide))
    · rw [up2_i (by omega)]
      exact hG i q (by omega) (by omega)
  have un : plI a x1 x2 = if x1 < 0 ∨ 6 ≤ x1 then 1 else if a 55 x1.toNat < 0 then 3 else if x2 < 3 ∨ 8 < x2 then 7 else if a 55 x1.toNat < 2 * x2 then 4 else @ite Int (¬ okN a x1.toNat x2.toNat) (Classical.propDecidable _) 7 (@ite Int (¬ RG x2.toNat (cX a x1.toNat) (cY a x1.toNat)) (Classical.propDecidable _) 12 (if a 53 5 = 60 then 10 else 0)) := rfl
  have rf0 : ∀ i q, i ≠ 79 → i ≠ 80 → a i q = a i q := fun _ _ _ _ => rfl
  have n1 : (x1 < 0 ∨ 6 ≤ x1) → Runs miX12_refuse (d + 3) [.ref 53, I_ 1] n (W0 dy) a (fun v n' S' g' => V miX12_plate (d + 4) 25 [(0, .ref 53), (1, I_ x1), (2, I_ x2)] (v.toList ++ []) n' S' g' 0 0 P) := fun c => wX12_refuse hn ⟨by decide, bX12_plate_25 hn (no 1 (by decide) (un.trans (if_pos c)) a rf0)⟩
  refine ⟨fun c => n1 (Or.inl c), fun c1 => ⟨fun c2 => ?_, fun c => n1 (Or.inr c)⟩⟩
  clear n1
  have un := un.trans (if_neg (by omega))
  refine ⟨⟨c1, c2⟩, fun c3 => ?_, fun c => wX12_refuse hn ⟨by decide, bX12_plate_40 hn (no 3 (by decide) (un.trans (if_pos c)) a rf0)⟩⟩
  have un := un.trans (if_neg (by omega))
  have n7 : (x2 < 3 ∨ 8 < x2) → Runs miX12_refuse (d + 3) [.ref 53, I_ 7] n (W0 dy) a (fun v n' S' g' => V miX12_plate (d + 4) 58 [(0, .ref 53), (1, I_ x1), (2, I_ x2)] (v.toList ++ []) n' S' g' 0 0 P) := fun c => wX12_refuse hn ⟨by decide, bX12_plate_58 hn (no 7 (by decide) (un.trans (if_pos c)) a rf0)⟩
  refine ⟨h2, fun c => n7 (Or.inl c), fun c4 => ⟨fun c5 => ?_, fun c => n7 (Or.inr c)⟩⟩
  clear n7
  have un := un.trans (if_neg (by omega))
  refine ⟨⟨by omega, by omega⟩, fun c6 => ?_, fun c => wX12_refuse hn ⟨by decide, bX12_plate_76 hn (no 4 (by decide) (un.trans (if_pos c)) a rf0)⟩⟩
  have un := un.trans (if_neg (by omega))
  obtain ⟨t, rfl⟩ := exN c1
  obtain ⟨m, rfl⟩ := exN (show 0 ≤ x2 by omega)
  refine rs_plate_read (a := a) hn (by omega) (by omega) (fun z G' hG => no 7 (by decide) (un.trans (if_pos z)) G' hG) (fun z G' hG hC => ?_)
  have un := un.trans (if_neg (fun w => w z))
  have cb := okN_c z
  have hRM : RM G' m := ⟨by omega, fun q hq => by rw [(hC q hq).1, (hC q hq).2]; exact cb q hq⟩
  refine rs_isRing hn hRM (fun z2 => ?_) (fun z2 => ?_)
  · have z3 : RG m (cX a t) (cY a t) := RG_cg (fun i hi => ⟨(hC i hi).1.symm, (hC i hi).2.symm⟩) z2
    have un := un.trans (if_neg (fun w => w z3))
    have e5 : G' 53 5 = a 53 5 := hG 53 5 (by omega) (by omega)
    refine bX12_plate_166 hn ⟨by decide, fun _ => ⟨fun c7 => ?_, fun c7 => ?_⟩, fun q => absurd q (by decide)⟩
    · rw [e5] at c7
      have un := un.trans (if_neg c7)
      have e2 : opPlate a (t : Int) (m : Int) = (a 53 5, plS a t m) := by
        unfold opPlate
        rw [un]; exact if_neg (fun w => w rfl)
      refine rs_plate_make hn (by rw [e5]; omega) hRM fun g' g1 g2 g3 => ?_
      rw [e5] at g1 g2 g3 ⊢
      have es : isum (crsS (G' 79) (G' 80) m) m = isum (crsS (cX a t) (cY a t) m) m := isum_cg fun i hi => by
        have l1 := nx_lt hi
        unfold crsS
        rw [(hC i hi).1, (hC i hi).2, (hC _ l1).1, (hC _ l1).2]
      rw [es] at g1
      have nw : ∀ i q w, i ≠ 79 → i ≠ 80 → nwp G' 4 w i q = nwp a 4 w i q := fun i q w i1 i2 => by
        unfold nwp
        rw [e5]
        unfold up2
        simp only [hG i q i1 i2]
      refine h _ _ _ e2 (rz_eq fun i q hl => ?_) (fun i q hi => ?_)
      · have i79 : i ≠ 79 := by rintro rfl; exact absurd (show false = true from hl) (by decide)
        have i80 : i ≠ 80 := by rintro rfl; exact absurd (show false = true from hl) (by decide)
        unfold plS
        by_cases i69 : i = 69
        · subst i69
          rw [g2 q, if_neg (show ¬ ((69 : Nat) = 70 ∧ _) from fun w => absurd w.1 (by decide))]
          by_cases c : 8 * (a 53 5).toNat ≤ q ∧ q < 8 * (a 53 5).toNat + m
          · rw [if_pos c, if_pos ⟨rfl, c⟩, (hC _ (by omega)).1]
          · rw [if_neg c, if_neg fun w => c w.2, hG 69 q (by omega) (by omega)]
            rw [up2_i (by omega)]
            rcases (nwp_at (kd := 4) (w := ab (isum (crsS (cX a t) (cY a t) m) m)) (show a 53 5 = (((a 53 5).toNat : Nat) : Int) by omega)).2.1 69 q with w | w | w
            · omega
            · omega
            · exact w.symm
        · by_cases i70 : i = 70
          · subst i70
            rw [g3 q, if_neg (show ¬ ((70 : Nat) = 69 ∧ _) from fun w => absurd w.1 (by decide))]
            by_cases c : 8 * (a 53 5).toNat ≤ q ∧ q < 8 * (a 53 5).toNat + m
            · rw [if_pos c, if_pos ⟨rfl, c⟩, (hC _ (by omega)).2]
            · rw [if_neg c, if_neg fun w => c w.2, hG 70 q (by omega) (by omega)]
              rw [up2_i (by omega)]
              rcases (nwp_at (kd := 4) (w := ab (isum (crsS (cX a t) (cY a t) m) m)) (show a 53 5 = (((a 53 5).toNat : Nat) : Int) by omega)).2.1 70 q with w | w | w
              · omega
              · omega
              · exact w.symm
          · rw [if_neg fun w => i69 w.1, if_neg fun w => i70 w.1, g1 i q i69 i70]
            unfold up2
            rw [nw i q _ i79 i80]
      · rw [g1 i q (by omega) (by omega), up2_i (by omega), nw i q _ (by omega) (by omega)]
        rcases (nwp_at (kd := 4) (w := ab (isum (crsS (cX a t) (cY a t) m) m)) (show a 53 5 = (((a 53 5).toNat : Nat) : Int) by omega)).2.1 i q with w | w | w
        · omega
        · omega
        · exact w
    · rw [e5] at c7
      exact wX12_refuse hn ⟨by decide, bX12_plate_191 hn (no 10 (by decide) (un.trans (if_pos c7)) G' hG)⟩
  · have z3 : ¬ RG m (cX a t) (cY a t) := fun w => z2 (RG_cg (fun i hi => ⟨(hC i hi).1, (hC i hi).2⟩) w)
    exact bX12_plate_166 hn ⟨by decide, fun q => absurd rfl q, fun _ => wX12_refuse hn ⟨by decide, bX12_plate_175 hn (no 12 (by decide) (un.trans (if_pos z3)) G' hG)⟩⟩
theorem opPlate_cg {g g1 : Hp} (h : rz g1 = rz g) (x1 x2 : Int) : (opPlate g1 x1 x2).1 = (opPlate g x1 x2).1 ∧ rz (opPlate g1 x1 x2).2 = rz (opPlate g x1 x2).2 := by
  have e5 : g1 53 5 = g 53 5 := rz_of h rfl
  have r : ∀ i, (54 ≤ i ∧ i ≤ 70) → g1 i = g i := fun i hi => funext fun q => rz_of h (by unfold rl; rw [show (Nat.ble 54 i && Nat.ble i 70) = true by rw [Bool.and_eq_true, Nat.ble_eq, Nat.ble_eq]; exact hi]; rfl)
  have eX : cX g1 = cX g := by unfold cX; rw [r 56 (by omega)]
  have eY : cY g1 = cY g := by unfold cY; rw [r 56 (by omega)]
  have eI : plI g1 x1 x2 = plI g x1 x2 := by
    unfold plI okN
    rw [eX, eY, e5, r 55 (by omega), r 56 (by omega)]
  unfold opPlate
  rw [eI]
  split
  · exact ⟨rfl, by show rz (up2 g1 53 0 _) = rz (up2 g 53 0 _); rw [rz_f0, rz_f0, h]⟩
  · refine ⟨e5, rz_eq fun i q hl => ?_⟩
    show plS g1 x1.toNat x2.toNat i q = plS g x1.toNat x2.toNat i q
    unfold plS nwp
    rw [eX, eY, e5]
    unfold up2
    simp only [rz_of h hl]
end PlateM2
