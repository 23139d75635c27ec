/-! CLASHES: the reference, all of it -/
section Clashes5
variable {d n : Nat} {dy : Nat → Shp} {g a G : Hp} {P : Pst}
theorem rs_clashes {x1 : Int} (hn : 100 ≤ n) (hI : Inv g) (h1 : i3 x1) (h : ∀ v g' a', opClashes (up2 (up2 g 53 1 0) 53 0 0) x1 = (v, a') → rz g' = rz a' → Kc (up2 (up2 g 53 1 0) 53 0 0) g' → P (some (I_ v)) n (W0 dy) g') : Runs miX12_clashes (d + 4) [.ref 53, I_ x1] n (W0 dy) g P := by
  have hI1 : Inv (up2 g 53 1 0) := hI
  refine wX12_clashes hn ?_
  generalize (up2 g 53 1 0) = g1 at h hI1 ⊢
  clear hI
  have et := whT_st g1 0 x1
  refine sp_wholes hn hI1 h1 (fun G hG hp => ?_) (fun k G e hk h0 hw ht hG hM => ?_)
  · have hz : rz G = rz g1 := rz_eq fun i q hl => hG i q (by unfold rl at hl; simp at hl; omega)
    refine bX12_clashes_11 hn ⟨whT_i3 _ _, fun q => by omega, fun _ => h _ _ _ (by unfold opClashes; rw [et]; exact if_pos hp) ?_ ?_⟩
    · rw [rz_f0, up2_up, rz_f0, hz]
    · intro i q hi
      rw [up2_i (by omega), up2_i (by omega)]; exact hG i q (by omega)
  · subst e
    refine bX12_clashes_11 hn ⟨by decide, fun _ => ?_, fun q => absurd q (by decide)⟩
    have hz : rz (up2 G 53 0 0) = rz (up2 g1 53 0 0) := by
      rw [rz_f0, rz_f0]
      exact congrArg (fun z => up2 z 53 0 0) (rz_eq fun i q hl => hG i q (by unfold rl at hl; simp at hl; omega))
    have hkc : Kc (up2 g1 53 0 0) (up2 G 53 0 0) := fun i q hi => by rw [up2_i (by omega), up2_i (by omega)]; exact hG i q (by omega)
    have hI2 : Inv (up2 g1 53 0 0) := hI1
    have hk2 : (k : Int) < up2 g1 53 0 0 53 5 := hk
    have h02 : up2 g1 53 0 0 60 k < 0 := h0
    have hM2 : ∀ y : Nat, (y : Int) < up2 g1 53 0 0 53 5 → up2 G 53 0 0 75 y = abvI (up2 g1 53 0 0 60) k y := hM
    have eop : opClashes (up2 g1 53 0 0) (k : Int) = (cntM (up2 g1 53 0 0) k, up2 g1 53 0 0) := by
      unfold opClashes; exact if_neg (by rw [et, ht]; decide)
    rw [eop] at h
    generalize (up2 G 53 0 0) = G1 at hz hkc hM2 ⊢
    generalize (up2 g1 53 0 0) = a at h hz hkc hI2 hk2 h02 hM2
    clear eop et ht hw hG hM hk h0 hI1
    refine rs_toPairs hn hI2 h02 hz hM2 (fun G2 hR => bX12_clashes_27 hn hR) fun G3 r hz3 hkc3 hO hP _ => bX12_clashes_31 hn ?_
    have hN := hI2.1
    have f5 : G3 53 5 = a 53 5 := rz_of hz3 (i := 53) (q := 5) rfl
    refine sp_noMore hn (by omega) fun G4 hG4 h84 => bX12_clashes_35 hn ?_
    have hz4 : rz G4 = rz a := (rz_eq fun i q hl => hG4 i q (by unfold rl at hl; simp at hl; omega)).trans hz3
    have hO4 : OD a G4 r := hO.mv rfl rfl (funext fun q => hG4 71 q (by decide))
    have hP4 : PA G4 (pall a k (a 53 5).toNat) := ⟨(hG4 53 35 (by decide)).trans hP.1, fun m p e => by rw [hG4 81 m (by decide), hG4 82 m (by decide)]; exact hP.2 m p e⟩
    have hL : ∀ p, p ∈ pall a k (a 53 5).toNat → (p.1 : Int) < a 53 5 ∧ (p.2 : Int) < a 53 5 := fun p hp => by
      have := pall_in k _ p hp
      omega
    have hlen : (pall a k (a 53 5).toNat).length ≤ 1770 := Nat.le_trans (pall_len hN.2 k _) (tri_b _ (by omega))
    refine sp_meets hn hI2 hz4 hO4 hP4 hL hlen (fun y hy => by rw [h84 y (by omega)]; decide) fun G5 hG5 => bX12_clashes_39 hn (h _ _ a ?_ ?_ ?_)
    · have e : cntP (hgtm a (G4 84)) (pall a k (a 53 5).toNat) = cntM a k := by
        obtain ⟨dp, hD⟩ := hI2.dp
        have ec : ∀ y : Nat, (y : Int) < a 53 5 → hgtm a (G4 84) y = hh a y := fun y hy => hgt_cg hD (fun k hk => by show a 62 k + G4 84 k = a 62 k; rw [h84 k (by omega)]; omega) 60 y hy
        rw [cntP_cg (H' := hh a) _ (fun p hp => ⟨ec _ (hL p hp).1, ec _ (hL p hp).2⟩), pall_cnt]
        rfl
      rw [e]
    · exact (rz_eq fun i q hl => hG5 i q (by unfold rl at hl; simp at hl; omega)).trans hz4
    · exact fun i q hi => (hG5 i q (by omega)).trans ((hG4 i q (by omega)).trans ((hkc3 i q hi).trans (hkc i q hi)))
theorem cWh_rz {g g1 : Hp} (h : rz g1 = rz g) (k : Nat) : cWh g1 k ↔ cWh g k := by
  unfold cWh whI
  rw [la_rz h, rz_row (i := 57) h (fun _ => rfl), rz_of h (i := 53) (q := 5) rfl, rz_row (i := 59) h (fun _ => rfl), rz_row (i := 64) h (fun _ => rfl), rz_row (i := 65) h (fun _ => rfl)]
theorem whT_rz {g g1 : Hp} (h : rz g1 = rz g) (x1 : Int) : whT g1 x1 = whT g x1 := by
  unfold whT
  rw [topI_rz h]
  split
  · rfl
  · by_cases c : cWh g x1.toNat
    · rw [if_pos c, if_pos ((cWh_rz h _).mpr c)]
    · rw [if_neg c, if_neg (fun z => c ((cWh_rz h _).mp z))]
theorem cntM_rz {g g1 : Hp} (h : rz g1 = rz g) (k : Nat) : cntM g1 k = cntM g k := by
  unfold cntM
  rw [rz_of h (i := 53) (q := 5) rfl]
  refine sumN_cg _ fun x _ => sumN_cg _ fun y _ => ?_
  unfold mt Wt
  rw [nr_rz h, hh_rz h, hh_rz h, la_rz h, rz_row (i := 57) h (fun _ => rfl)]
theorem opClashes_cg {g g1 : Hp} (h : rz g1 = rz g) (x1 : Int) : (opClashes g1 x1).1 = (opClashes g x1).1 ∧ rz (opClashes g1 x1).2 = rz (opClashes g x1).2 := by
  unfold opClashes
  rw [whT_rz h, cntM_rz h]
  generalize whT g x1 = T
  split
  · exact ⟨rfl, by show rz (up2 g1 53 0 T) = rz (up2 g 53 0 T); rw [rz_f0, rz_f0, h]⟩
  · exact ⟨rfl, h⟩
theorem inv_clashes {a : Hp} (hI : Inv a) (x1 : Int) : Inv (opClashes a x1).2 := by
  unfold opClashes
  split
  · exact hI.st _
  · exact hI
end Clashes5
