/-! THE CLASS: take, thread, tied, hang, part, rodAt -/
section Class2
variable {d n : Nat} {dy : Nat → Shp} {g a : Hp} {P : Pst}
theorem cs_take {x1 : Int} (hC : Ca n dy g a) (hI : Inv a) (h1 : i3 x1) (h : ∀ v a' g', opTake (up2 a 53 0 0) x1 = (v, a') → Ca n dy g' a' → Kr g g' → P (some (I_ v)) n (W0 dy) g') : Runs miX11_take (d + 2) [.ref 1, I_ x1] n (W0 dy) g P := by
  have hn := hC.1
  refine wX11_take hn (cs_partAt hC hI h1 ⟨fun c => ?_, fun c1 c2 => ?_⟩)
  · refine bX11_take_5 hn ⟨fun q => by omega, fun _ => wX11_refuses hn ⟨by decide, bX11_take_15 hn ⟨Or.inl rfl, h _ _ _ ?_ (hC.st2 0 2) ((Kr.refl g).up (by omega))⟩⟩⟩
    unfold opTake; exact if_pos c
  · have hk : ((x1.toNat : Nat) : Int) < a 53 5 := by omega
    have hb := hC.cell hk
    have hp := (hC.2.2.2.1 _ hk).pt (hI.2.2.1 _ hk).2
    obtain ⟨u1, u2⟩ := above_b hC hI hk
    refine bX11_take_5 hn ⟨fun _ => ⟨hp, fun q => ?_, fun q => ?_⟩, fun q => by omega⟩
    · have c : 0 ≤ a 60 x1.toNat := by
        by_cases c : a 60 x1.toNat < 0
        · have := u1 c; omega
        · omega
      obtain ⟨v1, v2, v3, v4, v5⟩ := u2 c
      refine cs_comeOff hC hI hk c fun g' hg' => bX11_take_34 hn (wX11_allows hn (bX11_take_38 hn ⟨Or.inr rfl, ?_⟩))
      have hg1 : ∀ q, g' 1 q = g 1 q := fun q => by
        rw [hg' 1 q]
        simp only [up2_ap]
        rw [if_neg (by omega), if_neg (by omega), if_neg (by omega), if_neg (by omega)]
      refine h _ _ _ ?_ (Ca.off (g := up2 g 1 3 0) (g' := up2 g' 1 3 0) (hC.st 0) (hI.st 0) hk c ⟨hg1 2, rfl, hg1 11⟩ (fun i q hi => ?_)) (fun i q hi => ?_)
      · unfold opTake
        exact (if_neg (show ¬ (x1 < 0 ∨ a 53 5 ≤ x1) by omega)).trans (if_neg (show ¬ a 60 x1.toNat < 0 by omega))
      · rw [up2_i hi, hg' i q]
        simp [up2_ap, hi]
      · rw [up2_i (by omega), hg' i q]
        simp only [up2_ap]
        rw [if_neg (by omega), if_neg (by omega), if_neg (by omega), if_neg (by omega)]
    · have c : a 60 x1.toNat < 0 := by
        by_cases c : a 60 x1.toNat < 0
        · exact c
        · have := u2 (by omega); omega
      refine wX11_refuses hn ⟨by decide, bX11_take_29 hn ⟨Or.inl rfl, h _ _ _ ?_ (hC.st2 0 8) ((Kr.refl g).up (by omega))⟩⟩
      unfold opTake; exact (if_neg (show ¬ (x1 < 0 ∨ a 53 5 ≤ x1) by omega)).trans (if_pos c)
theorem cs_thread {x1 x2 : Int} (hC : Ca n dy g a) (hI : Inv a) (h1 : i3 x1) (h2 : i3 x2) (h : ∀ v a' g', opThread (up2 a 53 0 0) x1 x2 = (v, a') → Ca n dy g' a' → Kr g g' → P (some (I_ v)) n (W0 dy) g') : Runs miX11_thread (d + 1) [.ref 1, I_ x1, I_ x2] n (W0 dy) g P := by
  have hn := hC.1
  have kr : ∀ w, Kr g (up2 g 1 3 w) := fun w => (Kr.refl g).up (by omega)
  refine wX11_thread hn (cs_partAt hC hI h1 ⟨fun c => ?_, fun c1 c2 => ?_⟩)
  · refine bX11_thread_5 hn ⟨fun q => by omega, fun _ => wX11_refuses hn ⟨by decide, bX11_thread_15 hn ⟨Or.inl rfl, h _ _ _ ?_ (hC.st2 0 2) (kr 2)⟩⟩⟩
    unfold opThread; exact if_pos c
  · have hk : ((x1.toNat : Nat) : Int) < a 53 5 := by omega
    have hb := hC.cell hk
    have hp := (hC.2.2.2.1 _ hk).pt (hI.2.2.1 _ hk).2
    obtain ⟨u1, u2⟩ := above_b hC hI hk
    refine bX11_thread_5 hn ⟨fun _ => ⟨hp, fun q => ?_, fun q => ?_⟩, fun q => by omega⟩
    · have c : 0 ≤ a 60 x1.toNat := by
        by_cases c : a 60 x1.toNat < 0
        · have := u1 c; omega
        · omega
      have no : (x2 < 1 ∨ 1000 < x2) → V miX11_thread (d + 1) 34 [(0, .ref 1), (1, I_ x1), (2, I_ x2), (3, .ref (g 3 x1.toNat).toNat)] [I_ 0] n (W0 dy) g 0 0 P := fun q2 => by
        refine bX11_thread_34 hn ⟨by decide, fun q9 => absurd rfl q9, fun _ => wX11_refuses hn ⟨by decide, bX11_thread_43 hn ⟨Or.inl rfl, h _ _ _ ?_ (hC.st2 0 7) (kr 7)⟩⟩⟩
        unfold opThread
        exact (if_neg (show ¬ (x1 < 0 ∨ a 53 5 ≤ x1) by omega)).trans ((if_neg (show ¬ a 60 x1.toNat < 0 by omega)).trans (if_pos q2))
      refine wX11_isThread hn ⟨h2, fun q2 => no (Or.inl q2), fun q2 => ⟨fun q3 => no (Or.inr q3), fun q3 => ?_⟩⟩
      refine bX11_thread_34 hn ⟨by decide, fun _ => ⟨hp, h2, wX11_allows hn (bX11_thread_53 hn ⟨Or.inr rfl, h _ _ _ ?_ (hC.thr hk x2) (((Kr.refl g).up (by omega)).up (by omega))⟩)⟩, fun q9 => by omega⟩
      unfold opThread
      exact (if_neg (show ¬ (x1 < 0 ∨ a 53 5 ≤ x1) by omega)).trans ((if_neg (show ¬ a 60 x1.toNat < 0 by omega)).trans (if_neg (by omega)))
    · have c : a 60 x1.toNat < 0 := by
        by_cases c : a 60 x1.toNat < 0
        · exact c
        · have := u2 (by omega); omega
      refine wX11_refuses hn ⟨by decide, bX11_thread_29 hn ⟨Or.inl rfl, h _ _ _ ?_ (hC.st2 0 8) (kr 8)⟩⟩
      unfold opThread; exact (if_neg (show ¬ (x1 < 0 ∨ a 53 5 ≤ x1) by omega)).trans (if_pos c)
theorem cs_tied {x1 x2 x3 : Int} (hC : Ca n dy g a) (hI : Inv a) (h1 : i3 x1) (h2 : i3 x2) (h3 : i3 x3) (h : ∀ v a' g', opTied a x1 x2 x3 = (v, a') → Ca n dy g' a' → Kr g g' → P (some (I_ v)) n (W0 dy) g') : Runs miX11_tied (d + 2) [.ref 1, I_ x1, I_ x2, I_ x3] n (W0 dy) g P := by
  have hn := hC.1
  have kr : ∀ w, Kr g (up2 g 1 3 w) := fun w => (Kr.refl g).up (by omega)
  have hb := rodI_b a x1
  refine wX11_tied hn (cs_rodGiven hC hI h1 ⟨fun c => ?_, fun c => ?_⟩)
  · exact bX11_tied_5 hn ⟨fun q => by omega, fun _ => h _ _ _ (by unfold opTied; exact if_pos c) (hC.st _) (kr _)⟩
  · obtain ⟨⟨b1, b2⟩, b3⟩ := hb.2 c
    have hk : ((x1.toNat : Nat) : Int) < a 53 5 := by omega
    have hc := hC.cell hk
    have no : (x3 < 2 ∨ 1000000 < x3 ∨ x2 < 1 ∨ x3 ≤ x2) → Runs miX11_refuses (d + 1) [.ref 1, I_ 7] n (W0 dy) (up2 g 1 3 0) (fun v n' S' g' => V miX11_tied (d + 2) 41 [(0, .ref 1), (1, I_ x1), (2, I_ x2), (3, I_ x3), (4, .ref (g 3 x1.toNat).toNat)] (v.toList ++ []) n' S' g' 0 0 P) := fun q => by
      refine wX11_refuses hn ⟨by decide, bX11_tied_41 hn ⟨Or.inl rfl, ?_⟩⟩
      refine h _ _ _ ?_ ((hC.st 0).st 7) (((kr 0)).up (by omega))
      unfold opTied
      rw [if_neg (by omega), if_pos q]
    refine bX11_tied_5 hn ⟨fun _ => ⟨h3, fun q => no (by omega), fun q => ⟨fun q2 => no (by omega), fun q2 => ⟨h2, fun q3 => no (by omega), fun q3 => ⟨fun q4 => ⟨(hC.2.2.2.1 _ hk).ob b3, ?_⟩, fun q4 => no (by omega)⟩⟩⟩⟩, fun q => by omega⟩
    refine wX11_allows hn (bX11_tied_58 hn ⟨Or.inr rfl, h _ _ _ ?_ (Ca.tie hC hk b3 x2 x3 ⟨?_, rfl, ?_⟩ (fun i q hi => ?_)) ((((kr 0).up (by omega)).up (by omega)).up (by omega))⟩)
    · unfold opTied
      rw [if_neg (by omega), if_neg (by omega)]
    · simp only [up2_ap]; rw [if_neg (by omega), if_neg (by omega), if_neg (by omega), if_neg (by omega)]
    · simp only [up2_ap]; rw [if_neg (by omega), if_neg (by omega), if_neg (by omega), if_neg (by omega)]
    · rw [up2_i hi]
      simp only [up2_ap]
      rw [if_neg (show ¬ (i = 1 ∧ q = 3) by omega)]
end Class2
