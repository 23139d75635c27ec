/-! WHAT THE REFERENCE'S SIMPLE METHODS LEAVE: the class's cells, the invariant -/
def Kc (g g' : Hp) : Prop := ∀ i q, (i < 53 ∨ 98 < i) → g' i q = g i q
theorem Kc.refl (g : Hp) : Kc g g := fun _ _ _ => rfl
theorem Kc.up {g g' : Hp} (h : Kc g g') {c k : Nat} {x : Int} (hc : 53 ≤ c ∧ c ≤ 98) : Kc g (up2 g' c k x) := fun i q hi => (up2_i (by omega)).trans (h i q hi)
/-- class and reference went one step alike -/
theorem jn {n : Nat} {dy : Nat → Shp} {op : Hp → Int × Hp} {g1 g2 G0 G1 a' : Hp} {v v' : Int} (hcg : ∀ g g1 : Hp, rz g1 = rz g → (op g1).1 = (op g).1 ∧ rz (op g1).2 = rz (op g).2) (hkc : ∀ g, Kc g (op g).2) (hz : rz G1 = rz G0) (hk : Kc g1 G1) (e : op G0 = (v, a')) (e2 : op G1 = (v', g2)) (hC : Ca n dy g1 a') (hI : Inv a') : v' = v ∧ Inv g2 ∧ Ca n dy g2 g2 ∧ Kc g1 g2 := by
  obtain ⟨c1, c2⟩ := hcg G0 G1 hz
  rw [e, e2] at c1 c2
  have k2 : Kc G1 g2 := by have := hkc G1; rw [e2] at this; exact this
  have k3 : Kc g1 g2 := fun i q hi => (k2 i q hi).trans (hk i q hi)
  refine ⟨c1, hI.cg c2, Ca.cg c2 (hC.keep (fun i q hi => k3 i q ?_)), k3⟩
  unfold cl at hi
  omega
theorem opHang_kc (g : Hp) (x1 x2 x3 x4 : Int) : Kc g (opHang g x1 x2 x3 x4).2 := by
  unfold opHang
  repeat' split
  all_goals (repeat (first | exact Kc.refl _ | refine Kc.up ?_ (by omega)))
theorem opThread_kc (g : Hp) (x1 x2 : Int) : Kc g (opThread g x1 x2).2 := by
  unfold opThread
  repeat' split
  all_goals (repeat (first | exact Kc.refl _ | refine Kc.up ?_ (by omega)))
theorem opTied_kc (g : Hp) (x1 x2 x3 : Int) : Kc g (opTied g x1 x2 x3).2 := by
  unfold opTied
  repeat' split
  all_goals (repeat (first | exact Kc.refl _ | refine Kc.up ?_ (by omega)))
theorem opPart_kc (g : Hp) (x1 x2 : Int) : Kc g (opPart g x1 x2).2 := by
  unfold opPart
  repeat' split
  all_goals (repeat (first | exact Kc.refl _ | refine Kc.up ?_ (by omega)))
theorem opRodAt_kc (g : Hp) (x1 x2 : Int) : Kc g (opRodAt g x1 x2).2 := by
  unfold opRodAt
  repeat' split
  all_goals (repeat (first | exact Kc.refl _ | refine Kc.up ?_ (by omega)))
theorem opRead_kc (g : Hp) (x1 x2 : Int) : Kc g (opRead g x1 x2).2 := by
  unfold opRead
  repeat' split
  all_goals (repeat (first | exact Kc.refl _ | refine Kc.up ?_ (by omega)))
theorem opWrite_kc (g : Hp) (x1 x2 x3 : Int) : Kc g (opWrite g x1 x2 x3).2 := by
  unfold opWrite
  repeat' split
  all_goals (repeat (first | exact Kc.refl _ | refine Kc.up ?_ (by omega)))
theorem nwW_kc (g : Hp) (x1 : Int) : Kc g (nwW g x1).2 := by
  unfold nwW nwp
  repeat' split
  all_goals (repeat (first | exact Kc.refl _ | refine Kc.up ?_ (by omega)))
theorem opRod_kc (g : Hp) (x1 x2 x3 : Int) : Kc g (opRod g x1 x2 x3).2 := by
  unfold opRod nwp
  repeat' split
  all_goals (repeat (first | exact Kc.refl _ | refine Kc.up ?_ (by omega)))
theorem opSwap_kc (g : Hp) (x1 : Int) : Kc g (opSwap g x1).2 := by
  unfold opSwap sw0
  repeat' split
  all_goals (repeat (first | exact Kc.refl _ | refine Kc.up ?_ (by omega)))
theorem opTake_kc (g : Hp) (x1 : Int) : Kc g (opTake g x1).2 := by
  unfold opTake off
  repeat' split
  all_goals (repeat (first | exact Kc.refl _ | refine Kc.up ?_ (by omega)))
theorem opLoad_kc (g : Hp) (x1 x2 : Int) : Kc g (opLoad g x1 x2).2 := by
  unfold opLoad
  split
  · exact (Kc.refl _).up (by omega)
  · exact fun i q hi => (nwW_kc _ _ i q hi).trans (up2_i (by omega))
theorem opTray_kc (g : Hp) (x1 x2 x3 : Int) : Kc g (opTray g x1 x2 x3).2 := by
  unfold opTray
  repeat' split
  · exact (Kc.refl _).up (by omega)
  · exact (Kc.refl _).up (by omega)
  · exact (Kc.refl _).up (by omega)
  · intro i q hi
    show clr _ _ _ i q = g i q
    unfold clr
    rw [if_neg (by omega), up2_i (by omega), up2_i (by omega)]
theorem off_cg {g g1 : Hp} (h : rz g1 = rz g) (k : Nat) : rz (off g1 k) = rz (off g k) := by
  have e60 := rz_row (i := 60) h (fun _ => rfl)
  have e61 := rz_row (i := 61) h (fun _ => rfl)
  unfold off
  simp only [e60, e61]
  split
  · simp only [rz_u54, rz_u55, rz_u56, rz_u57, rz_u58, rz_u59, rz_u60, rz_u61, rz_u62, rz_u63, rz_u64, rz_u65, rz_u66, rz_u67, rz_u68, rz_u69, rz_u70, rz_u77, rz_u78, rz_f0, rz_f5, rz_f26, rz_f29, rz_f1, h]
  · simp only [rz_u54, rz_u55, rz_u56, rz_u57, rz_u58, rz_u59, rz_u60, rz_u61, rz_u62, rz_u63, rz_u64, rz_u65, rz_u66, rz_u67, rz_u68, rz_u69, rz_u70, rz_u77, rz_u78, rz_f0, rz_f5, rz_f26, rz_f29, rz_f1, h]
theorem opTake_cg {g g1 : Hp} (h : rz g1 = rz g) (x1 : Int) : (opTake g1 x1).1 = (opTake g x1).1 ∧ rz (opTake g1 x1).2 = rz (opTake g x1).2 := by
  have e60 := rz_row (i := 60) h (fun _ => rfl)
  have f5 := rz_of h (i := 53) (q := 5) rfl
  unfold opTake
  simp only [e60, f5]
  repeat' split
  · exact ⟨rfl, by simp only [rz_f0, h]⟩
  · exact ⟨rfl, by simp only [rz_f0, h]⟩
  · exact ⟨rfl, off_cg h _⟩
theorem opLoad_cg {g g1 : Hp} (h : rz g1 = rz g) (x1 x2 : Int) : (opLoad g1 x1 x2).1 = (opLoad g x1 x2).1 ∧ rz (opLoad g1 x1 x2).2 = rz (opLoad g x1 x2).2 := by
  have e55 := rz_row (i := 55) h (fun _ => rfl)
  have e56 := rz_row (i := 56) h (fun _ => rfl)
  unfold opLoad plcI
  simp only [e55, e56]
  have h' : rz (up2 g1 53 0 0) = rz (up2 g 53 0 0) := by rw [rz_f0, rz_f0, h]
  repeat' split
  all_goals first | exact nwW_cg h' _ | exact ⟨rfl, by simp only [rz_f0, h]⟩
theorem opTray_cg {g g1 : Hp} (h : rz g1 = rz g) (x1 x2 x3 : Int) : (opTray g1 x1 x2 x3).1 = (opTray g x1 x2 x3).1 ∧ rz (opTray g1 x1 x2 x3).2 = rz (opTray g x1 x2 x3).2 := by
  have hc : ∀ (b b1 : Hp) (t m : Nat), rz b1 = rz b → rz (clr b1 t m) = rz (clr b t m) := fun b b1 t m hb => by
    refine rz_eq fun i q hl => ?_
    unfold clr
    split
    · rfl
    · exact rz_of hb hl
  unfold opTray
  repeat' split
  all_goals first | exact ⟨rfl, hc _ _ _ _ (by simp only [rz_u54, rz_u55, rz_u56, rz_u57, rz_u58, rz_u59, rz_u60, rz_u61, rz_u62, rz_u63, rz_u64, rz_u65, rz_u66, rz_u67, rz_u68, rz_u69, rz_u70, rz_u77, rz_u78, rz_f0, rz_f5, rz_f26, rz_f29, rz_f1, h])⟩ | exact ⟨rfl, by simp only [rz_f0, h]⟩
section InvOps
variable {a : Hp}
theorem inv_hang (hI : Inv a) (x1 x2 x3 x4 : Int) : Inv (opHang a x1 x2 x3 x4).2 := by
  unfold opHang
  by_cases c1 : x1 < 0 ∨ a 53 5 ≤ x1 ∨ x2 < 0 ∨ a 53 5 ≤ x2
  · rw [if_pos c1]; exact hI.st 2
  · rw [if_neg c1]
    by_cases c2 : (a 57 x2.toNat ≠ 2 ∧ a 57 x2.toNat ≠ 3) ∨ (a 57 x2.toNat = 3 ∧ (a 57 x1.toNat = 2 ∨ a 57 x1.toNat = 3))
    · rw [if_pos c2]; exact hI.st 5
    · rw [if_neg c2]
      by_cases c3 : x3 < 0 ∨ 1 < x3 ∨ x4 < 1 ∨ 1000 < x4 ∨ abvI (a 60) x1.toNat x2.toNat = 1
      · rw [if_pos c3]; exact hI.st 7
      · rw [if_neg c3]
        by_cases c4 : 0 ≤ a 60 x1.toNat ∨ (x3 = 0 ∧ 0 ≤ a 66 x2.toNat) ∨ (x3 ≠ 0 ∧ 0 ≤ a 67 x2.toNat)
        · rw [if_pos c4]; exact hI.st 8
        · rw [if_neg c4]
          obtain ⟨x, rfl⟩ := exN (show 0 ≤ x1 by omega)
          obtain ⟨r, rfl⟩ := exN (show 0 ≤ x2 by omega)
          have hab : abv (a 60) x 60 r = false := by
            cases hh : abv (a 60) x 60 r with
            | false => rfl
            | true => exact absurd (show abvI (a 60) x r = 1 by unfold abvI; rw [hh]; rfl) (fun z => c3 (Or.inr (Or.inr (Or.inr (Or.inr z)))))
          have hk : a 57 r = 2 ∨ a 57 r = 3 := by
            have c2 : ¬ ((a 57 r ≠ 2 ∧ a 57 r ≠ 3) ∨ (a 57 r = 3 ∧ (a 57 x = 2 ∨ a 57 x = 3))) := c2
            omega
          have c4 : ¬ (0 ≤ a 60 x ∨ (x3 = 0 ∧ 0 ≤ a 66 r) ∨ (x3 ≠ 0 ∧ 0 ≤ a 67 r)) := c4
          clear c2
          exact hI.hang (x := x) (r := r) (by omega) (by omega) hk (by omega) (by omega) (by omega) (by omega) hab
theorem inv_take (hI : Inv a) (x1 : Int) : Inv (opTake a x1).2 := by
  unfold opTake
  split
  · exact hI.st 2
  · split
    · exact hI.st 8
    · exact hI.off (by omega) (by omega)
theorem inv_thread (hI : Inv a) (x1 x2 : Int) : Inv (opThread a x1 x2).2 := by
  unfold opThread
  split
  · exact hI.st 2
  · split
    · exact hI.st 8
    · split
      · exact hI.st 7
      · have h2 : ∀ j, up2 a 62 x1.toNat x2 62 j = if j = x1.toNat then x2 else a 62 j := fun j => up2_k
        show Inv (up2 a 62 x1.toNat x2)
        refine hI.dyn (fun i q _ h1 _ h6 h7 => up2_i (by omega)) (PR_thr (x := x1.toNat) (w := x2) (by omega) (show 0 ≤ a 60 x1.toNat by omega) h2 hI.pr) (fun j hj c => ⟨rfl, rfl⟩) hI.2.2.2.1
theorem inv_tie (hI : Inv a) {k : Nat} {v w : Int} (hk : (k : Int) < a 53 5) (hr : a 57 k = 2 ∨ a 57 k = 3) (hv : 1 ≤ v ∧ v < w ∧ w ≤ 1920000000) : Inv (up2 (up2 a 64 k v) 65 k w) := by
  obtain ⟨i1, i2, i3_, i4, i5, i6_⟩ := hI
  refine ⟨i1, i2, fun j hj => ⟨(i3_ j hj).1, ?_⟩, i4, i5, i6_⟩
  have := (i3_ j hj).2
  unfold KI at this ⊢
  rcases this with z | z | z
  · exact Or.inl z
  · refine Or.inr (Or.inl ⟨z.1, z.2.1, z.2.2.1, z.2.2.2.1, ?_⟩)
    have e4 : up2 (up2 a 64 k v) 65 k w 64 j = if j = k then v else a 64 j := by rw [up2_i (by omega), up2_k]
    have e5 : up2 (up2 a 64 k v) 65 k w 65 j = if j = k then w else a 65 j := by rw [up2_k]; rfl
    rw [e4, e5]
    have := z.2.2.2.2
    split <;> omega
  · exact Or.inr (Or.inr z)
theorem inv_tied (hI : Inv a) (x1 x2 x3 : Int) : Inv (opTied a x1 x2 x3).2 := by
  have hb := rodI_b a x1
  unfold opTied
  split
  · exact hI.st _
  · split
    · exact hI.st 7
    · obtain ⟨b1, b2⟩ := hb.2 (by omega)
      exact inv_tie (a := up2 a 53 0 0) (hI.st 0) (by show ((x1.toNat : Nat) : Int) < a 53 5; omega) b2 (by omega)
theorem inv_swap (hI : Inv a) (x1 : Int) : Inv (opSwap a x1).2 := by
  have hb := rodI_b a x1
  by_cases c : 0 < rodI a x1
  · unfold opSwap; rw [if_pos c]; exact hI.st _
  · obtain ⟨b1, b2⟩ := hb.2 (by omega)
    obtain ⟨x, rfl⟩ := exN b1.1
    rw [opSwap_eq (by omega)]
    exact (hI.st 0).swap (x := x) b1.2 b2
theorem inv_part (hI : Inv a) (x1 x2 : Int) : Inv (opPart a x1 x2).2 := by
  unfold opPart
  split
  · exact hI.st 2
  · split
    · exact hI.st 7
    · exact hI
theorem inv_rodAt (hI : Inv a) (x1 x2 : Int) : Inv (opRodAt a x1 x2).2 := by
  unfold opRodAt
  split
  · exact hI.st _
  · split
    · exact hI.st 7
    · exact hI.st 0
theorem inv_read (hI : Inv a) (x1 x2 : Int) : Inv (opRead a x1 x2).2 := by
  unfold opRead
  split
  · exact hI.st _
  · exact hI.st 0
theorem inv_write (hI : Inv a) (x1 x2 x3 : Int) : Inv (opWrite a x1 x2 x3).2 := by
  unfold opWrite
  split
  · exact hI.st _
  · exact hI
theorem inv_tray (hI : Inv a) (x1 x2 x3 : Int) : Inv (opTray a x1 x2 x3).2 := by
  unfold opTray
  repeat' split
  · exact hI.st 1
  · exact hI.st 6
  · exact hI.st 7
  · refine hI.tr (fun i q _ i1 i2 i3 i4 => ?_) (fun t ht => ?_)
    · show clr _ _ _ i q = _
      unfold clr; rw [if_neg (by omega), up2_i i2, up2_i i1]
    · have e5 : clr (up2 (up2 a 54 x1.toNat x2) 55 x1.toNat x3) x1.toNat x3.toNat 55 t = if t = x1.toNat then x3 else a 55 t := by unfold clr; rw [if_neg (by omega), up2_k]; rfl
      have e4 : clr (up2 (up2 a 54 x1.toNat x2) 55 x1.toNat x3) x1.toNat x3.toNat 54 t = if t = x1.toNat then x2 else a 54 t := by unfold clr; rw [if_neg (by omega), up2_i (by omega), up2_k]
      show TI (clr _ _ _) t
      unfold TI
      rw [e5, e4]
      have := hI.2.1 t ht
      unfold TI at this
      split <;> omega
theorem inv_nwW (hI : Inv a) (w : Int) : Inv (nwW a w).2 := by
  unfold nwW
  split
  · exact hI.st 7
  · split
    · exact hI.st 10
    · obtain ⟨N, eN⟩ := exN hI.1.1
      have hN := hI.1.2
      obtain ⟨w1, w2, w3, w4, w5, w6, w7, w8, w9⟩ := nwp_at (kd := 1) (w := w) eN
      have same : ∀ i q, ¬ (i = 53 ∧ q = 5) → ¬ (q = N ∧ (i = 57 ∨ i = 63 ∨ i = 60 ∨ i = 61 ∨ i = 62 ∨ i = 66 ∨ i = 67)) → nwp a 1 w i q = a i q := fun i q h1 h2 => by
        rcases w2 i q with z | z | z
        · exact absurd z h1
        · exact absurd z h2
        · exact z
      show Inv (nwp a 1 w)
      refine hI.new (N := N) eN (by omega) w1 ⟨same 53 26 (by omega) (by omega), same 53 29 (by omega) (by omega), fun i q hi => same i q (by omega) (by omega)⟩ (fun i k i1 i2 hk => same i k (by omega) (by omega)) (fun i q hi hq => same i q (by omega) (by omega)) ⟨w5, w6, w7, w8, w9⟩ ?_
      refine Or.inl ⟨w3, ?_, w8, w9⟩
      rw [w4]; omega
theorem inv_load (hI : Inv a) (x1 x2 : Int) : Inv (opLoad a x1 x2).2 := by
  unfold opLoad
  split
  · exact hI.st _
  · exact inv_nwW (hI.st 0) _
end InvOps
