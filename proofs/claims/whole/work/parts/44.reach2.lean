/-! REACH: the reference -/
theorem rs_reach {d n : Nat} {dy : Nat → Shp} {g : Hp} {P : Pst} {x1 x2 x3 : Int} (hn : 100 ≤ n) (hI : Inv g) (h1 : i3 x1) (h2 : i3 x2) (h3 : i3 x3) (h : ∀ v g' a', opReach (up2 (up2 g 53 1 0) 53 0 0) x1 x2 x3 = (v, a') → rz g' = rz a' → Kc (up2 (up2 g 53 1 0) 53 0 0) g' → P (some (I_ v)) n (W0 dy) g') : Runs miX12_reach (d + 2) [.ref 53, I_ x1, I_ x2, I_ x3] n (W0 dy) g P := by
  have hI1 : Inv (up2 (up2 g 53 1 0) 53 0 0) := hI
  refine wX12_reach hn ?_
  generalize (up2 (up2 g 53 1 0) 53 0 0) = g1 at h hI1 ⊢
  clear hI
  have hF1 : RF g1 := ⟨hI1.1, hI1.dp⟩
  have hN := hF1.1
  have hb := @abvI_b (g1 60) x2.toNat x1.toNat
  have harms : (0 ≤ x1 ∧ x1 < g1 53 5 ∧ 0 ≤ x2 ∧ x2 < g1 53 5) → (g1 57 x2.toNat = 2 ∨ g1 57 x2.toNat = 3) → x1 ≠ x2 → abvI (g1 60) x2.toNat x1.toNat = 1 → Runs miX12_arms (d + 1) [.ref 53, I_ x1, I_ x2, I_ 1] n (W0 dy) g1 (fun v n' S' g' => V miX12_reach (d + 2) 74 [(0, .ref 53), (1, I_ x1), (2, I_ x2), (3, I_ x3)] (v.toList ++ []) n' S' g' 0 0 P) := by
    intro c1 c2 c3 c4
    have g0 : ¬ (x1 < 0 ∨ g1 53 5 ≤ x1 ∨ x2 < 0 ∨ g1 53 5 ≤ x2) := by omega
    have g2 : ¬ (g1 57 x2.toNat ≠ 2 ∧ g1 57 x2.toNat ≠ 3) := by omega
    have g3 : ¬ (x1 = x2 ∨ abvI (g1 60) x2.toNat x1.toNat = 0) := by omega
    obtain ⟨x, rfl⟩ := exN c1.1
    obtain ⟨r, rfl⟩ := exN c1.2.2.1
    have hx : (x : Int) < g1 53 5 := c1.2.1
    have hr : (r : Int) < g1 53 5 := c1.2.2.2
    have c4' : abvI (g1 60) r x ≠ 0 := fun z => by
      have c9 : abvI (g1 60) r x = 1 := c4
      omega
    have mb := msr_b0 hI1 (s := g1 60 r) hx
    have eop : opReach g1 (x : Int) (r : Int) x3 = if (msr g1 (g1 60 r) 60 x (1, 0, 0)).1 = 0 then (-1, up2 g1 53 0 9) else (if x3 = 0 then max 0 (2 * (msr g1 (g1 60 r) 60 x (1, 0, 0)).2.2 - (msr g1 (g1 60 r) 60 x (1, 0, 0)).2.1) else (msr g1 (g1 60 r) 60 x (1, 0, 0)).2.1, g1) := by
      unfold opReach
      exact (if_neg g0).trans ((if_neg g2).trans (if_neg g3))
    rw [eop] at h
    refine rs_arms hn hI1 hx hr (abvI_t c4') (Or.inr rfl) (fun z => absurd z (by decide)) fun g' hk ht => ?_
    rw [if_neg (by decide)] at ht
    generalize msr g1 (g1 60 r) 60 x (1, 0, 0) = T at *
    have hz : rz g' = rz g1 := rz_eq fun i q hl => hk i q (by unfold rl at hl; simp at hl; omega)
    have hkc : Kc g1 g' := fun i q hi => hk i q (by omega)
    clear eop g0 g2 g3 c1 c2 c3 c4
    refine bX12_reach_74 hn ⟨fun q => ?_, fun q => ?_⟩
    · rw [if_neg (by rw [← ht.1]; exact q)] at h
      refine ⟨h3, fun q3 => ?_, fun q3 => ?_⟩
      · refine wX12_armsLeast hn ⟨?_, bX12_reach_103 hn ?_⟩
        · rw [ht.2.1, ht.2.2]; exact ⟨by omega, by omega⟩
        · rw [ht.2.1, ht.2.2]
          rw [if_pos q3] at h
          exact h _ _ _ rfl hz hkc
      · rw [ht.2.1]
        rw [if_neg q3] at h
        exact bX12_reach_103 hn (h _ _ _ rfl hz hkc)
    · rw [if_pos (by rw [← ht.1]; exact q)] at h
      refine wX12_refuse hn ⟨by decide, bX12_reach_87 hn (h _ _ _ rfl ?_ (hkc.up (by omega)))⟩
      rw [rz_f0, rz_f0, hz]
  refine wX12_isPart hn ?_
  refine ⟨by first | omega | assumption, ?_⟩
  refine ⟨?_, ?_⟩
  · intro q1
    refine bX12_reach_15 hn ?_
    refine ⟨by first | omega | assumption, ?_⟩
    refine ⟨?_, ?_⟩
    · intro q2
      refine wX12_refuse hn ?_
      refine ⟨by first | omega | assumption, ?_⟩
      refine bX12_reach_31 hn ?_
      first | omega | (refine h _ _ _ ?_ rfl ?_ <;> first | exact (Kc.refl _).up (by omega) | (unfold opReach; (repeat' split) <;> first | rfl | (exfalso; omega)))
    · intro q3; omega
  · intro q4
    refine ⟨?_, ?_⟩
    · intro q5
      refine bX12_reach_15 hn ?_
      refine ⟨by first | omega | assumption, ?_⟩
      refine ⟨?_, ?_⟩
      · intro q6
        refine wX12_refuse hn ?_
        refine ⟨by first | omega | assumption, ?_⟩
        refine bX12_reach_31 hn ?_
        first | omega | (refine h _ _ _ ?_ rfl ?_ <;> first | exact (Kc.refl _).up (by omega) | (unfold opReach; (repeat' split) <;> first | rfl | (exfalso; omega)))
      · intro q7; omega
    · intro q8
      refine bX12_reach_15 hn ?_
      refine ⟨by first | omega | assumption, ?_⟩
      refine ⟨?_, ?_⟩
      · intro q9; omega
      · intro q10
        refine wX12_isPart hn ?_
        refine ⟨by first | omega | assumption, ?_⟩
        refine ⟨?_, ?_⟩
        · intro q11
          refine bX12_reach_23 hn ?_
          refine ⟨by first | omega | assumption, ?_⟩
          refine ⟨?_, ?_⟩
          · intro q12; omega
          · intro q13
            refine wX12_refuse hn ?_
            refine ⟨by first | omega | assumption, ?_⟩
            refine bX12_reach_31 hn ?_
            first | omega | (refine h _ _ _ ?_ rfl ?_ <;> first | exact (Kc.refl _).up (by omega) | (unfold opReach; (repeat' split) <;> first | rfl | (exfalso; omega)))
        · intro q14
          refine ⟨?_, ?_⟩
          · intro q15
            refine bX12_reach_23 hn ?_
            refine ⟨by first | omega | assumption, ?_⟩
            refine ⟨?_, ?_⟩
            · intro q16; omega
            · intro q17
              refine wX12_refuse hn ?_
              refine ⟨by first | omega | assumption, ?_⟩
              refine bX12_reach_31 hn ?_
              first | omega | (refine h _ _ _ ?_ rfl ?_ <;> first | exact (Kc.refl _).up (by omega) | (unfold opReach; (repeat' split) <;> first | rfl | (exfalso; omega)))
          · intro q18
            refine bX12_reach_23 hn ?_
            refine ⟨by first | omega | assumption, ?_⟩
            refine ⟨?_, ?_⟩
            · intro q19
              refine wX12_isRod hn ?_
              refine ⟨by first | omega | assumption, ?_⟩
              refine ⟨?_, ?_⟩
              · intro q20
                refine bX12_reach_37 hn ?_
                refine ⟨by first | omega | assumption, ?_⟩
                refine ⟨?_, ?_⟩
                · intro q21
                  refine ⟨by first | omega | assumption, ?_⟩
                  refine ⟨by first | omega | assumption, ?_⟩
                  refine ⟨?_, ?_⟩
                  · intro q22
                    refine wX12_refuse hn ?_
                    refine ⟨by first | omega | assumption, ?_⟩
                    refine bX12_reach_66 hn ?_
                    first | omega | (refine h _ _ _ ?_ rfl ?_ <;> first | exact (Kc.refl _).up (by omega) | (unfold opReach; (repeat' split) <;> first | rfl | (exfalso; omega)))
                  · intro q23
                    refine spX12_isAbove hn hF1 (by omega) (by omega) (by omega) ⟨fun _ => ?_, fun _ => ?_⟩
                    · refine bX12_reach_57 hn ?_
                      refine ⟨by first | omega | assumption, ?_⟩
                      refine ⟨?_, ?_⟩
                      · intro q24; omega
                      · intro q25
                        refine wX12_refuse hn ?_
                        refine ⟨by first | omega | assumption, ?_⟩
                        refine bX12_reach_66 hn ?_
                        first | omega | (refine h _ _ _ ?_ rfl ?_ <;> first | exact (Kc.refl _).up (by omega) | (unfold opReach; (repeat' split) <;> first | rfl | (exfalso; omega)))
                    · refine bX12_reach_57 hn ?_
                      refine ⟨by first | omega | assumption, ?_⟩
                      refine ⟨?_, ?_⟩
                      · intro q26
                        exact harms (by omega) (by omega) (by omega) (by omega)
                      · intro q27; omega
                · intro q28; omega
              · intro q29
                refine ⟨?_, ?_⟩
                · intro q30
                  refine bX12_reach_37 hn ?_
                  refine ⟨by first | omega | assumption, ?_⟩
                  refine ⟨?_, ?_⟩
                  · intro q31; omega
                  · intro q32
                    refine wX12_refuse hn ?_
                    refine ⟨by first | omega | assumption, ?_⟩
                    refine bX12_reach_45 hn ?_
                    first | omega | (refine h _ _ _ ?_ rfl ?_ <;> first | exact (Kc.refl _).up (by omega) | (unfold opReach; (repeat' split) <;> first | rfl | (exfalso; omega)))
                · intro q33
                  refine bX12_reach_37 hn ?_
                  refine ⟨by first | omega | assumption, ?_⟩
                  refine ⟨?_, ?_⟩
                  · intro q34
                    refine ⟨by first | omega | assumption, ?_⟩
                    refine ⟨by first | omega | assumption, ?_⟩
                    refine ⟨?_, ?_⟩
                    · intro q35
                      refine wX12_refuse hn ?_
                      refine ⟨by first | omega | assumption, ?_⟩
                      refine bX12_reach_66 hn ?_
                      first | omega | (refine h _ _ _ ?_ rfl ?_ <;> first | exact (Kc.refl _).up (by omega) | (unfold opReach; (repeat' split) <;> first | rfl | (exfalso; omega)))
                    · intro q36
                      refine spX12_isAbove hn hF1 (by omega) (by omega) (by omega) ⟨fun _ => ?_, fun _ => ?_⟩
                      · refine bX12_reach_57 hn ?_
                        refine ⟨by first | omega | assumption, ?_⟩
                        refine ⟨?_, ?_⟩
                        · intro q37; omega
                        · intro q38
                          refine wX12_refuse hn ?_
                          refine ⟨by first | omega | assumption, ?_⟩
                          refine bX12_reach_66 hn ?_
                          first | omega | (refine h _ _ _ ?_ rfl ?_ <;> first | exact (Kc.refl _).up (by omega) | (unfold opReach; (repeat' split) <;> first | rfl | (exfalso; omega)))
                      · refine bX12_reach_57 hn ?_
                        refine ⟨by first | omega | assumption, ?_⟩
                        refine ⟨?_, ?_⟩
                        · intro q39
                          exact harms (by omega) (by omega) (by omega) (by omega)
                        · intro q40; omega
                  · intro q41; omega
            · intro q42; omega
theorem opReach_cg {g g1 : Hp} (h : rz g1 = rz g) (x1 x2 x3 : Int) : (opReach g1 x1 x2 x3).1 = (opReach g x1 x2 x3).1 ∧ rz (opReach g1 x1 x2 x3).2 = rz (opReach g x1 x2 x3).2 := by
  have e57 := rz_row (i := 57) h (fun _ => rfl)
  have e60 := rz_row (i := 60) h (fun _ => rfl)
  have f5 := rz_of h (i := 53) (q := 5) rfl
  unfold opReach
  rw [e57, e60, f5, msr_cg h]
  generalize msr g (g 60 x2.toNat) 60 x1.toNat (1, 0, 0) = T
  split
  · exact ⟨rfl, by show rz (up2 g1 53 0 2) = rz (up2 g 53 0 2); rw [rz_f0, rz_f0, h]⟩
  · split
    · exact ⟨rfl, by show rz (up2 g1 53 0 5) = rz (up2 g 53 0 5); rw [rz_f0, rz_f0, h]⟩
    · split
      · exact ⟨rfl, by show rz (up2 g1 53 0 8) = rz (up2 g 53 0 8); rw [rz_f0, rz_f0, h]⟩
      · split
        · exact ⟨rfl, by show rz (up2 g1 53 0 9) = rz (up2 g 53 0 9); rw [rz_f0, rz_f0, h]⟩
        · exact ⟨rfl, h⟩
theorem inv_reach {a : Hp} (hI : Inv a) (x1 x2 x3 : Int) : Inv (opReach a x1 x2 x3).2 := by
  unfold opReach
  split
  · exact hI.st 2
  · split
    · exact hI.st 5
    · split
      · exact hI.st 8
      · split
        · exact hI.st 9
        · exact hI
/-- class and reference went one step alike; the reference left scratch behind -/
theorem jn2 {n : Nat} {dy : Nat → Shp} {op : Hp → Int × Hp} {g1 g2 G0 G1 a' b' : Hp} {v v' : Int} (hcg : ∀ g g1 : Hp, rz g1 = rz g → (op g1).1 = (op g).1 ∧ rz (op g1).2 = rz (op g).2) (hz : rz G1 = rz G0) (hk : Kc g1 G1) (e : op G0 = (v, a')) (e2 : op G1 = (v', b')) (hb : rz g2 = rz b') (hk2 : Kc G1 g2) (hC : Ca n dy g1 a') (hI : Inv a') : v' = v ∧ Inv g2 ∧ Ca n dy g2 g2 ∧ Kc g1 g2 := by
  obtain ⟨c1, c2⟩ := hcg G0 G1 hz
  rw [e, e2] at c1 c2
  have k3 : Kc g1 g2 := fun i q hi => (hk2 i q hi).trans (hk i q hi)
  have c3 : rz g2 = rz a' := hb.trans c2
  refine ⟨c1, hI.cg c3, Ca.cg c3 (hC.keep (fun i q hi => k3 i q ?_)), k3⟩
  unfold cl at hi
  omega
