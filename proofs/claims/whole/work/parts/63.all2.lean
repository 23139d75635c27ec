/-! ALL: the reference -/
theorem ld_alv {a : Hp} {v : Nat → Int} (k m s : Nat) : ld (alv a k m) v s = ld a v s := ld_cg (funext fun q => alv_o (by omega) (by omega) m) (alv_o (by omega) (by omega) m) (fun _ _ => rfl) s
theorem sd_alv {a : Hp} {v : Nat → Int} (k m : Nat) (s : Int) : sd (alv a k m) v s = sd a v s := by unfold sd; rw [ld_alv]
theorem lp_alv {a : Hp} {v : Nat → Int} (k m y : Nat) : lp (alv a k m) v y = lp a v y := by
  unfold lp; rw [sd_alv, alv_o (by omega) (by omega), alv_o (by omega) (by omega)]
theorem lq_alv {a : Hp} {v : Nat → Int} (k m y : Nat) : lq (alv a k m) v y = lq a v y := by
  unfold lq; rw [sd_alv, sd_alv, alv_o (by omega) (by omega), alv_o (by omega) (by omega), alv_o (by omega) (by omega)]
section All2
variable {d n : Nat} {dy : Nat → Shp} {g a G : Hp} {P : Pst}
theorem LR.tie {v : Nat → Int} {i : Nat} {x y : Int} {k : Nat} (hL : LR (alv a k i) G v) (e : alv a k (i + 1) = up2 (up2 (alv a k i) 64 i x) 65 i y) : LR (alv a k (i + 1)) (up2 (up2 G 64 i x) 65 i y) v := by
  refine ⟨fun r q c1 c2 c3 c4 c5 => ?_, fun z hz => ?_⟩
  · rw [e]
    unfold up2
    rw [hL.1 r q c1 c2 c3 c4 c5]
  · rw [up2_i (by omega), up2_i (by omega)]
    rw [alv_o (by omega) (by omega)] at hz
    rw [hL.2 z (by rw [alv_o (by omega) (by omega)]; exact hz), ld_alv, ld_alv]
theorem rs_all {x1 : Int} (hn : 100 ≤ n) (hI : Inv g) (h1 : i3 x1) (h : ∀ v g' a', opAll (up2 (up2 g 53 1 0) 53 0 0) x1 = (v, a') → rz g' = rz a' → Kc (up2 (up2 g 53 1 0) 53 0 0) g' → P (some (I_ v)) n (W0 dy) g') : Runs miX12_all (d + 3) [.ref 53, I_ x1] n (W0 dy) g P := by
  have hI1 : Inv (up2 g 53 1 0) := hI
  refine wX12_all hn ?_
  generalize (up2 g 53 1 0) = g1 at h hI1 ⊢
  clear hI
  refine spX12_topped hn hI1.1.2 h1 (bX12_all_11 hn ⟨topI_i3 _ _, fun q => ?_, fun q => ?_⟩)
  · have c := topI_le q
    rw [c]
    obtain ⟨c1, c2, c3⟩ := topI_0 c
    obtain ⟨k, rfl⟩ := exN c1
    have hI2 : Inv (up2 g1 53 0 0) := hI1
    have ct : topI (up2 g1 53 0 0) (k : Int) = 0 := c
    have c2' : (k : Int) < up2 g1 53 0 0 53 5 := c2
    generalize (up2 g1 53 0 0) = a at h hI2 ct c2' ⊢
    clear q c c1 c2 c3 hI1
    have eop : opAll a (k : Int) = if cAll a k then (sumN (fun y => if abv (a 60) k 60 y = true then rodc a y else 0) (a 53 5).toNat, alv a k (a 53 5).toNat) else (-1, up2 a 53 0 11) := by
      unfold opAll; exact if_neg (by rw [ct]; omega)
    rw [eop] at h
    have hN := hI2.1
    refine rs_allThere hn hI2 fun G0 r hL0 _ _ _ => bX12_all_27 hn ?_
    have e50 : G0 53 5 = a 53 5 := hL0.1 53 5 (by omega) (by omega) (by omega) (by omega) (by omega)
    refine rs_marks hn (hL0.rf hI2) (by omega) fun G k1 k2 => bX12_all_32 hn ?_
    obtain ⟨hL, hM⟩ := hL0.marks k1 k2
    clear hL0 k1 k2 e50
    generalize ef : (fun y => if abv (a 60) k 60 y = true then rodc a y else 0) = f at h
    have fy : ∀ y, f y = if abv (a 60) k 60 y = true then rodc a y else 0 := fun y => by rw [← ef]
    -- the second loop
    have two : cAll a k → ∀ (t i : Nat) (G : Hp), (t : Int) + i = a 53 5 → LR (alv a k i) G (a 63) → (∀ y : Nat, (y : Int) < a 53 5 → G 75 y = abvI (a 60) k y) → V miX12_all (d + 3) 90 [(0, .ref 53), (1, I_ (k : Int)), (2, I_ (sumN f (a 53 5).toNat)), (3, I_ (i : Int))] [] n (W0 dy) G 0 0 P := by
      intro hc t
      rw [if_pos hc] at h
      induction t with
      | zero =>
        intro i G hi hL hM
        have e5 : G 53 5 = a 53 5 := (hL.1 53 5 (by omega) (by omega) (by omega) (by omega) (by omega)).trans (alv_o (by omega) (by omega) i)
        refine bX12_all_90 hn ⟨⟨by omega, by omega⟩, fun _ => ?_, fun q => by omega⟩
        rw [show i = (a 53 5).toNat by omega] at hL
        exact h _ _ _ rfl hL.rz fun i q hi => (hL.kc i q hi).trans (alv_o (by omega) (by omega) _)
      | succ t ih =>
        intro i G hi hL hM
        have e5 : G 53 5 = a 53 5 := (hL.1 53 5 (by omega) (by omega) (by omega) (by omega) (by omega)).trans (alv_o (by omega) (by omega) i)
        have em : G 75 ((i : Nat) : Int).toNat = abvI (a 60) k i := hM i (by omega)
        have e57 : G 57 ((i : Nat) : Int).toNat = a 57 i := (hL.1 57 i (by omega) (by omega) (by omega) (by omega) (by omega)).trans (alv_o (by omega) (by omega) i)
        have skip : ¬ (abv (a 60) k 60 i = true ∧ (a 57 i = 2 ∨ a 57 i = 3)) → V miX12_all (d + 3) 90 [(0, .ref 53), (1, I_ (k : Int)), (2, I_ (sumN f (a 53 5).toNat)), (3, I_ ((i : Int) + 1))] [] n (W0 dy) G 0 0 P := fun z => by
          rw [show ((i : Nat) : Int) + 1 = ((i + 1 : Nat) : Int) by omega]
          refine ih (i + 1) G (by omega) ?_ hM
          have e : alv a k (i + 1) = alv a k i := if_neg z
          rw [e]; exact hL
        refine bX12_all_90 hn ⟨⟨by omega, by omega⟩, fun q => by omega, fun _ => ⟨by omega, fun q => skip fun z => ?_, fun q => ?_⟩⟩
        · rw [em] at q
          unfold abvI at q
          rw [if_pos z.1] at q; omega
        · rw [em] at q
          have ab := abvI_t q
          have rod : (a 57 i = 2 ∨ a 57 i = 3) → V miX12_all (d + 3) 112 [(0, .ref 53), (1, I_ (k : Int)), (2, I_ (sumN f (a 53 5).toNat)), (3, I_ (i : Int))] [I_ 1] n (W0 dy) G 0 0 P := fun c => by
            have can := hc i (by omega) ab c
            have hIa := inv_alv hI2 hc i (by omega)
            have hia : ((i : Nat) : Int) < alv a k i 53 5 := by rw [alv_o (by omega) (by omega)]; omega
            obtain ⟨bp, bq⟩ := sh_b hI2 (k := i) (by omega)
            have g1 := gq_b can.1
            have g2 := gq_le hI2 (k := i) (by omega) can.1
            have tb := tp_b hI2 (k := i) (by omega) can
            have m6 : mx6 = 9223372036854775807 := rfl
            refine bX12_all_112 hn ⟨by decide, fun _ => sp_levelP hn hIa hL hia ?_, fun z => absurd z (by decide)⟩
            rw [lp_alv]
            refine bX12_all_123 hn (sp_levelQ hn hIa hL hia ?_)
            rw [lq_alv]
            refine bX12_all_130 hn (spX12_common hn (x := lpo a i) (y := lqo a i) (by omega) (by omega) ?_)
            refine bX12_all_139 (x4 := lpo a i) (x6 := lqo a i) (xs0 := (gq a i : Int)) hn ⟨⟨by omega, by omega⟩, ⟨by omega, by omega⟩, by omega, by omega, ⟨?_, ?_⟩, ⟨by omega, by omega⟩, by omega, ⟨?_, ?_⟩, ?_⟩
            · show _ ≤ tpU a i; omega
            · show tpU a i ≤ _; omega
            · show _ ≤ tpL a i; omega
            · show tpL a i ≤ _; omega
            · rw [show ((i : Nat) : Int) + 1 = ((i + 1 : Nat) : Int) by omega]
              have e : alv a k (i + 1) = up2 (up2 (alv a k i) 64 i (tpU a i)) 65 i (tpL a i) := if_pos ⟨ab, c⟩
              refine ih (i + 1) _ (by omega) (hL.tie e) fun y hy => ?_
              exact hM y hy
          refine wX12_isRod hn ⟨by omega, fun z => rod (by omega), fun z => ⟨fun z2 => ?_, fun z2 => rod (by omega)⟩⟩
          exact bX12_all_112 hn ⟨by decide, fun z => absurd rfl z, fun _ => skip fun z => by omega⟩
    -- the first loop
    have one : ∀ t i : Nat, (t : Int) + i = a 53 5 → (∀ y, y < i → abv (a 60) k 60 y = true → (a 57 y = 2 ∨ a 57 y = 3) → canP a y) → V miX12_all (d + 3) 36 [(0, .ref 53), (1, I_ (k : Int)), (2, I_ (sumN f i)), (3, I_ (i : Int))] [] n (W0 dy) G 0 0 P := by
      have e5 : G 53 5 = a 53 5 := hL.1 53 5 (by omega) (by omega) (by omega) (by omega) (by omega)
      intro t
      induction t with
      | zero =>
        intro i hi hp
        refine bX12_all_36 hn ⟨⟨by omega, by omega⟩, fun _ => ?_, fun q => by omega⟩
        have e : i = (a 53 5).toNat := by omega
        have hc : cAll a k := fun y hy => hp y (by omega)
        rw [e]
        exact two hc (a 53 5).toNat 0 G (by omega) hL hM
      | succ t ih =>
        intro i hi hp
        have em : G 75 ((i : Nat) : Int).toNat = abvI (a 60) k i := hM i (by omega)
        have e57 : G 57 ((i : Nat) : Int).toNat = a 57 i := hL.1 57 i (by omega) (by omega) (by omega) (by omega) (by omega)
        have nx : ∀ w : Int, sumN f i + f i = w → (abv (a 60) k 60 i = true → (a 57 i = 2 ∨ a 57 i = 3) → canP a i) → V miX12_all (d + 3) 36 [(0, .ref 53), (1, I_ (k : Int)), (2, I_ w), (3, I_ ((i : Int) + 1))] [] n (W0 dy) G 0 0 P := fun w e hc => by
          rw [show ((i : Nat) : Int) + 1 = ((i + 1 : Nat) : Int) by omega, ← e]
          refine ih (i + 1) (by omega) fun y hy => ?_
          by_cases z : y = i
          · rw [z]; exact hc
          · exact hp y (by omega)
        refine bX12_all_36 hn ⟨⟨by omega, by omega⟩, fun q => by omega, fun _ => ⟨by omega, fun q => ?_, fun q => ?_⟩⟩
        · rw [em] at q
          have na : ¬ abv (a 60) k 60 i = true := fun z => by
            unfold abvI at q
            rw [if_pos z] at q; omega
          refine nx _ ?_ fun z => absurd z na
          rw [fy, if_neg na]; omega
        · rw [em] at q
          have ab := abvI_t q
          have rod : (a 57 i = 2 ∨ a 57 i = 3) → V miX12_all (d + 3) 58 [(0, .ref 53), (1, I_ (k : Int)), (2, I_ (sumN f i)), (3, I_ (i : Int))] [I_ 1] n (W0 dy) G 0 0 P := fun c => by
            refine bX12_all_58 hn ⟨by decide, fun _ => sp_canBeLevel hn hI2 (VB.own hI2) hL (by omega) (fun z => ?_) (fun z => ?_), fun z => absurd z (by decide)⟩
            · have nc : ¬ cAll a k := fun w => z (w i (by omega) ab c)
              rw [if_neg nc] at h
              refine bX12_all_69 hn ⟨by decide, fun z => absurd rfl z, fun _ => wX12_refuse hn ⟨by decide, bX12_all_78 hn (h _ _ _ rfl ?_ (hL.kc.up (by omega)))⟩⟩
              rw [rz_f0, rz_f0, hL.rz]
            · refine bX12_all_69 hn ⟨by decide, fun _ => nx _ ?_ fun _ _ => z, fun z => absurd z (by decide)⟩
              rw [fy, if_pos ab]; unfold rodc; rw [if_pos c]
          refine wX12_isRod hn ⟨by omega, fun z => rod (by omega), fun z => ⟨fun z2 => ?_, fun z2 => rod (by omega)⟩⟩
          refine bX12_all_58 hn ⟨by decide, fun z => absurd rfl z, fun _ => nx _ ?_ fun _ z => by omega⟩
          rw [fy, if_pos ab]; unfold rodc; rw [if_neg (by omega)]; omega
    exact one (a 53 5).toNat 0 (by omega) (fun y hy => by omega)
  · have e : up2 g1 53 0 (topI g1 x1) = up2 (up2 g1 53 0 0) 53 0 (topI g1 x1) := by rw [up2_up]
    rw [e]
    refine h _ _ _ ?_ rfl ((Kc.refl _).up (by omega))
    unfold opAll; exact if_pos q
theorem alv_rz {g g1 : Hp} (h : rz g1 = rz g) (k : Nat) : ∀ m, rz (alv g1 k m) = rz (alv g k m)
  | 0 => h
  | m + 1 => by
    unfold alv
    rw [rz_row (i := 60) h (fun _ => rfl), rz_of h (i := 57) (q := m) rfl, (tp_rz h m).1, (tp_rz h m).2]
    split
    · rw [rz_u65, rz_u64, rz_u65, rz_u64, alv_rz h k m]
    · exact alv_rz h k m
theorem cAll_rz {g g1 : Hp} (h : rz g1 = rz g) (k : Nat) : cAll g1 k ↔ cAll g k := by
  unfold cAll canP
  rw [rz_row (i := 60) h (fun _ => rfl), rz_row (i := 57) h (fun _ => rfl), rz_of h (i := 53) (q := 5) rfl]
  simp only [lpo_rz h, lqo_rz h]
theorem opAll_cg {g g1 : Hp} (h : rz g1 = rz g) (x1 : Int) : (opAll g1 x1).1 = (opAll g x1).1 ∧ rz (opAll g1 x1).2 = rz (opAll g x1).2 := by
  have er : ∀ y, rodc g1 y = rodc g y := fun y => by unfold rodc; rw [rz_of h (i := 57) (q := y) rfl]
  have st : ∀ T : Int, rz (up2 g1 53 0 T) = rz (up2 g 53 0 T) := fun T => by rw [rz_f0, rz_f0, h]
  unfold opAll
  rw [topI_rz h]
  split
  · exact ⟨rfl, st _⟩
  · by_cases c : cAll g x1.toNat
    · rw [if_pos c, if_pos ((cAll_rz h _).mpr c)]
      show sumN _ (g1 53 5).toNat = sumN _ (g 53 5).toNat ∧ rz (alv g1 x1.toNat (g1 53 5).toNat) = rz (alv g x1.toNat (g 53 5).toNat)
      rw [rz_row (i := 60) h (fun _ => rfl), rz_of h (i := 53) (q := 5) rfl]
      simp only [er]
      exact ⟨trivial, alv_rz h _ _⟩
    · rw [if_neg c, if_neg (fun z => c ((cAll_rz h _).mp z))]
      exact ⟨rfl, st _⟩
theorem inv_all {a : Hp} (hI : Inv a) (x1 : Int) : Inv (opAll a x1).2 := by
  unfold opAll
  split
  · exact hI.st _
  · split
    · rename_i c
      exact inv_alv hI c _ (Nat.le_refl _)
    · exact hI.st _
end All2
