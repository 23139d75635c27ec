/-! FEWEST: the class, all of it -/
section Fewest2
variable {d n : Nat} {dy : Nat → Shp} {g a G : Hp} {P : Pst} {l : List Nat} {k0 : Nat}
theorem fsI_b (a : Hp) (k : Nat) (x2 : Int) : 0 ≤ fsI a k x2 ∧ fsI a k x2 ≤ 10 := by
  unfold fsI
  repeat' split
  all_goals omega
theorem cs_fewestStatus {k : Nat} {x2 : Int} (hC : Ca n dy g a) (hI : Inv a) (hk : (k : Int) < a 53 5) (h2 : i3 x2) (hb : ∀ G, Ca n dy G a → Kr g G → fsI a k x2 ≠ 0 → P (some (I_ (fsI a k x2))) n (W0 dy) G) (hg : fsI a k x2 = 0 → ∀ (G : Hp) (l : List Nat), GF g a G k l → P (some (I_ 0)) n (W0 dy) G) : Runs miX11_fewestStatus (d + 4) [.ref 1, .ref (g 3 k).toNat, I_ x2] n (W0 dy) g P := by
  have hn := hC.1
  have bk := hC.cell hk
  obtain ⟨u1, u2⟩ := above_b hC hI hk
  have bad : ∀ v : Int, fsI a k x2 = v → v ≠ 0 → ∀ G, Ca n dy G a → Kr g G → P (some (I_ v)) n (W0 dy) G := fun v e hv G c1 c2 => by
    have := hb G c1 c2 (by rw [e]; exact hv)
    rw [e] at this; exact this
  refine wX11_fewestStatus hn ⟨fun _ => cs_asRod hC hI hk ⟨fun rod => ?_, fun rod => ?_⟩, fun q => by omega⟩
  · have s1 : fsI a k x2 = if x2 < 0 ∨ 14 < x2 then 7 else if 0 ≤ a 60 k then 8 else if 0 < wrN a k then 9 else if 14 < nW a k then 10 else 0 := by unfold fsI; rw [if_neg (fun z => z rod)]
    have no7 : (x2 < 0 ∨ 14 < x2) → P (some (I_ 7)) n (W0 dy) g := fun c => bad 7 (by rw [s1, if_pos c]) (by decide) g hC (Kr.refl g)
    refine bX11_fewestStatus_10 hn ⟨fun _ => ⟨h2, fun c => no7 (Or.inl c), fun c => ⟨fun c2 => ⟨(hC.2.2.2.1 k hk).pt (hI.2.2.1 k hk).2, fun q => ?_, fun q => ?_⟩, fun c2 => no7 (Or.inr c2)⟩⟩, fun q => by omega⟩
    · rw [if_neg (by omega)] at s1
      have z : a 60 k < 0 := by
        by_cases z : a 60 k < 0
        · exact z
        · obtain ⟨-, v2, v3, -⟩ := u2 (by omega)
          rw [v2] at q; omega
      rw [if_neg (by omega)] at s1
      refine cs_gather hC hI hk fun G l hF => bX11_fewestStatus_46 hn (cs_notLevel hC hI hF ?_)
      rw [hF.sum]
      have wb := wrN_b hI k
      refine bX11_fewestStatus_53 (xs0 := wrN a k) hn ⟨⟨by omega, by omega⟩, fun c3 => ?_, fun c3 => ?_⟩
      · rw [if_neg (by omega)] at s1
        have nb := nW_b hI k
        refine cs_countOf hC hI hF (fun _ _ _ => rfl) (bX11_fewestStatus_67 hn ⟨⟨by omega, by omega⟩, fun c4 => ?_, fun c4 => ?_⟩)
        · rw [if_neg (by omega)] at s1
          exact hg s1 G l hF
        · rw [if_pos c4] at s1
          exact bad 10 s1 (by decide) G (hF.ca hC) hF.kr
      · rw [if_pos c3] at s1
        exact bad 9 s1 (by decide) G (hF.ca hC) hF.kr
    · rw [if_neg (by omega)] at s1
      have z : 0 ≤ a 60 k := by
        by_cases z : a 60 k < 0
        · rw [u1 z] at q; exact absurd q (by decide)
        · omega
      rw [if_pos z] at s1
      exact bad 8 s1 (by decide) g hC (Kr.refl g)
  · have s1 : fsI a k x2 = 5 := by unfold fsI; rw [if_pos rod]
    exact bX11_fewestStatus_10 hn ⟨fun q => absurd q (Nat.lt_irrefl 0), fun _ => bad 5 s1 (by decide) g hC (Kr.refl g)⟩
theorem cs_suspectAll {G0 : Hp} (hC : Ca n dy g a) (hI : Inv a) (hF : GF g a G0 k0 l) (hG : ∀ i q, i ≠ 1 → G i q = G0 i q) (hG1 : G 1 2 = a 53 5) (h14 : nW a k0 ≤ 14) (h : ∀ G', (∀ i q, i ≠ 36 → (i ≠ 1 ∨ q ≠ 11) → G' i q = G i q) → G' 1 11 = nW a k0 → (∀ j x : Nat, (wts a k0 (a 53 5).toNat)[j]? = some x → G' 36 j = (x : Int)) → P none n (W0 dy) G') : Runs miX11_suspectAllWeights (d + 2) [.ref 1] n (W0 dy) G P := by
  have hn := hC.1
  have hN := hI.1
  have hm := hF.2.2.2.2.2.1
  have key : ∀ (t i : Nat) (G' : Hp), (t : Int) + i = a 53 5 → (∀ i q, i ≠ 36 → (i ≠ 1 ∨ q ≠ 11) → G' i q = G i q) → G' 1 11 = ((wts a k0 i).length : Int) → (∀ j x : Nat, (wts a k0 i)[j]? = some x → G' 36 j = (x : Int)) → V miX11_suspectAllWeights (d + 2) 7 [(0, .ref 1), (1, I_ (i : Int))] [] n (W0 dy) G' 0 0 P := by
    intro t
    induction t with
    | zero =>
      intro i G' hi hg h11 h36
      have e2 := (hg 1 2 (by decide) (by decide)).trans hG1
      refine bX11_suspectAllWeights_7 hn ⟨⟨by omega, by omega⟩, fun _ => ?_, fun q => by omega⟩
      rw [show i = (a 53 5).toNat by omega] at h11 h36
      exact h G' hg h11 h36
    | succ t ih =>
      intro i G' hi hg h11 h36
      have e2 := (hg 1 2 (by decide) (by decide)).trans hG1
      have hiN : (i : Int) < a 53 5 := by omega
      have b := hC.cell hiN
      have gk : ∀ j q, j ≠ 36 → j ≠ 1 → G' j q = G0 j q := fun j q j1 j2 => (hg j q j1 (Or.inl j2)).trans (hG j q j2)
      have e3 : G' 3 ((i : Nat) : Int).toNat = g 3 i := (gk 3 i (by decide) (by decide)).trans (hF.g3 i)
      have k : ∀ q, q < 6 → G' (g 3 i).toNat q = g (g 3 i).toNat q := fun q hq => (gk _ q (by omega) (by omega)).trans (hF.1 _ q (by omega) (by omega) (by omega))
      have pt : Pt n (W0 dy) (g 3 i).toNat := (hC.2.2.2.1 i hiN).pt (hI.2.2.1 i hiN).2
      have k1 : G' (g 3 i).toNat 1 = a 57 i := (k 1 (by decide)).trans (hC.2.2.2.1 i hiN).2.1.2.1
      have e0 : G' (g 3 i).toNat 0 = (i : Int) := (k 0 (by decide)).trans (hC.2.2.2.1 i hiN).2.1.1
      have skip : ¬ Wt a k0 i → V miX11_suspectAllWeights (d + 2) 7 [(0, .ref 1), (1, I_ ((i : Int) + 1))] [] n (W0 dy) G' 0 0 P := fun z => by
        have e : wts a k0 (i + 1) = wts a k0 i := if_neg z
        rw [show ((i : Nat) : Int) + 1 = ((i + 1 : Nat) : Int) by omega]
        exact ih (i + 1) G' (by omega) hg (by rw [e]; exact h11) (by rw [e]; exact h36)
      refine bX11_suspectAllWeights_7 hn ⟨⟨by omega, by omega⟩, fun q => by omega, fun _ => ⟨⟨by omega, by omega⟩, ?_⟩⟩
      rw [e3, k1]
      refine ⟨fun q => by omega, fun _ => ⟨pt, fun q => skip fun z => q z.2, fun q => ?_⟩⟩
      have hbi : hb (G' 4 2) i ↔ abv (a 60) k0 60 i = true := by
        rw [gk 4 2 (by decide) (by decide), hF.2.2.2.1 i (by omega), hm i]
        exact ⟨fun z => z.2, fun z => ⟨hiN, z⟩⟩
      refine wX1_holds hn ⟨pt, wX2_bit hn ⟨pt, ?_⟩⟩
      rw [e0]
      refine bX1_holds_8 hn ⟨fun z => ?_, fun z => ?_⟩
      · have na : ¬ abv (a 60) k0 60 i = true := fun w => (hb_and (by omega)).mpr (hbi.mpr w) z
        exact bX11_suspectAllWeights_42 hn ⟨by decide, fun _ => skip fun w => na w.1, fun w => absurd rfl w⟩
      · have ab := hbi.mp ((hb_and (by omega)).mp z)
        have wi : Wt a k0 i := ⟨ab, q⟩
        have e : wts a k0 (i + 1) = wts a k0 i ++ [i] := if_pos wi
        have len : ((wts a k0 i).length : Int) + 1 ≤ nW a k0 := by
          have l1 := wts_len (a := a) (k := k0) (i + 1)
          rw [e, List.length_append] at l1
          have l2 := wts_len (a := a) (k := k0) (a 53 5).toNat
          have mono : ∀ u w : Nat, sumN (fun y => if Wt a k0 y then 1 else 0) w ≤ sumN (fun y => if Wt a k0 y then 1 else 0) (w + u) := fun u w => by
            induction u with
            | zero => exact Int.le_refl _
            | succ u ihu =>
              show _ ≤ sumN (fun y => if Wt a k0 y then 1 else 0) (w + u) + (if Wt a k0 (w + u) then 1 else 0)
              split <;> omega
          have l3 := mono ((a 53 5).toNat - (i + 1)) (i + 1)
          rw [show i + 1 + ((a 53 5).toNat - (i + 1)) = (a 53 5).toNat by omega] at l3
          have l1 : (((wts a k0 i).length + 1 : Nat) : Int) = sumN (fun y => if Wt a k0 y then 1 else 0) (i + 1) := l1
          unfold nW
          omega
        refine bX11_suspectAllWeights_42 hn ⟨by decide, fun w => absurd w (by decide), fun _ => ⟨fun w => by omega, fun _ => ⟨pt, ⟨by omega, by omega⟩, ⟨by omega, by omega⟩, ?_⟩⟩⟩
        rw [e0, show ((i : Nat) : Int) + 1 = ((i + 1 : Nat) : Int) by omega, show (G' 1 11).toNat = (wts a k0 i).length by omega]
        refine ih (i + 1) _ (by omega) (fun j q j1 j2 => ?_) ?_ (fun j x ej => ?_)
        · rw [up2_ap, if_neg (by omega), up2_i j1]; exact hg j q j1 j2
        · rw [up2_s, h11, e, List.length_append]; rfl
        · rw [up2_i (by decide), up2_k]
          rw [e] at ej
          generalize wts a k0 i = L at *
          by_cases c : j < L.length
          · rw [List.getElem?_append_left c] at ej
            rw [if_neg (by omega)]; exact h36 j x ej
          · rw [List.getElem?_append_right (by omega)] at ej
            have hlt := (List.getElem?_eq_some_iff.mp ej).1
            have hlt : j - L.length < 1 := hlt
            rw [show j - L.length = 0 by omega] at ej
            have ej : i = x := by simpa using ej
            rw [if_pos (by omega), ej]
  refine wX11_suspectAllWeights hn (key (a 53 5).toNat 0 _ (by omega) (fun i q i1 i2 => ?_) up2_s (fun j x e => by simp [wts] at e))
  rw [up2_ap, if_neg (by omega)]
theorem wrN_st (a : Hp) (w : Int) (k : Nat) : wrN (up2 a 53 0 w) k = wrN a k := rfl
theorem wts_st (a : Hp) (w : Int) (k : Nat) : ∀ m, wts (up2 a 53 0 w) k m = wts a k m
  | 0 => rfl
  | m + 1 => by
    have e : ∀ b : Hp, wts b k (m + 1) = if Wt b k m then wts b k m ++ [m] else wts b k m := fun _ => rfl
    rw [e, e, wts_st a w k m]
    have i : Wt (up2 a 53 0 w) k m ↔ Wt a k m := Iff.rfl
    by_cases c : Wt a k m
    · rw [if_pos c, if_pos (i.mpr c)]
    · rw [if_neg c, if_neg fun z => c (i.mp z)]
theorem nW_st (a : Hp) (w : Int) (k : Nat) : nW (up2 a 53 0 w) k = nW a k := by
  unfold nW
  rw [wts_st]; rfl
theorem fsI_st (a : Hp) (w : Int) (k : Nat) (x2 : Int) : fsI (up2 a 53 0 w) k x2 = fsI a k x2 := by
  unfold fsI
  rw [nW_st, wrN_st]; rfl
theorem cs_fewest {x1 x2 : Int} (hC : Ca n dy g a) (hI : Inv a) (h1 : i3 x1) (h2 : i3 x2) (h : ∀ v a' g', opFewest (up2 a 53 0 0) x1 x2 = (v, a') → Ca n dy g' a' → Kr g g' → P (some (I_ v)) n (W0 dy) g') : Runs miX11_fewest (d + 5) [.ref 1, I_ x1, I_ x2] n (W0 dy) g P := by
  have hn := hC.1
  have hN := hI.1
  refine wX11_fewest hn (cs_partAt hC hI h1 ⟨fun c => ?_, fun c1 c2 => ?_⟩)
  · refine bX11_fewest_7 hn (wX11_fewestStatus hn ⟨fun q => absurd q (Nat.lt_irrefl 0), fun _ => bX11_fewest_11 hn ⟨by decide, fun q => absurd q (by decide), fun _ => h _ _ _ ?_ (hC.st2 0 2) ((Kr.refl g).up (by omega))⟩⟩)
    unfold opFewest; exact if_pos c
  · obtain ⟨k, rfl⟩ := exN c1
    have hk : (k : Int) < a 53 5 := c2
    have fs := fsI_st a 0 k x2
    have fb := fsI_b a k x2
    have eop : opFewest (up2 a 53 0 0) (k : Int) x2 = if fsI (up2 a 53 0 0) k x2 ≠ 0 then (-1, up2 (up2 a 53 0 0) 53 0 (fsI (up2 a 53 0 0) k x2)) else if x2 = 0 then (0, up2 (up2 a 53 0 0) 53 26 0) else if x2 ≤ nW (up2 a 53 0 0) k ∧ bareP (up2 a 53 0 0) k then (nW (up2 a 53 0 0) k, kp (up2 a 53 0 0) (wts (up2 a 53 0 0) k (up2 a 53 0 0 53 5).toNat)) else (-1, up2 (up2 a 53 0 0) 53 0 11) := by
      unfold opFewest; exact if_neg (by show ¬ ((k : Int) < 0 ∨ a 53 5 ≤ (k : Int)); omega)
    rw [eop] at h
    clear eop
    show V miX11_fewest (d + 5) 7 [(0, .ref 1), (1, I_ (k : Int)), (2, I_ x2)] [.ref (g 3 k).toNat, .ref 1, .ref 1] n (W0 dy) g 0 0 P
    refine bX11_fewest_7 hn (cs_fewestStatus hC hI hk h2 (fun G cG kG z => ?_) (fun z G l hF => ?_))
    · rw [if_pos (by rw [fs]; exact z), fs] at h
      exact bX11_fewest_11 hn ⟨⟨by omega, by omega⟩, fun q => absurd q z, fun _ => h _ _ _ rfl (cG.st2 0 _) (kG.up (by omega))⟩
    · rw [if_neg (by rw [fs, z]; decide)] at h
      have hC0 := hC.st 0
      have hI0 : Inv (up2 a 53 0 0) := hI
      have hF0 := hF.st (w := 0) hC
      have hK0 : Kr g (up2 g 1 3 0) := (Kr.refl g).up (by omega)
      have n14 : nW (up2 a 53 0 0) k ≤ 14 := by
        rw [nW_st]
        unfold fsI at z
        repeat' split at z
        all_goals omega
      refine bX11_fewest_11 hn ⟨by decide, fun _ => ⟨h2, fun q => ?_, fun q => ?_⟩, fun q => absurd rfl q⟩
      · rw [if_neg q] at h
        generalize (up2 G 1 3 0) = G0 at hF0 ⊢
        generalize (up2 g 1 3 0) = g0 at hC0 hF0 hK0
        generalize (up2 a 53 0 0) = a0 at h hC0 hI0 hF0 n14
        have hCG := hF0.ca hC0
        have hKG := hK0.trans hF0.kr
        have nb := nW_b hI0 k
        have no11 : ¬ (x2 ≤ nW a0 k ∧ bareP a0 k) → Runs miX11_none (d + 4) [.ref 1, I_ 11] n (W0 dy) G0 (fun v n' S' g' => V miX11_fewest (d + 5) 65 [(0, .ref 1), (1, I_ (k : Int)), (2, I_ x2)] (v.toList ++ []) n' S' g' 0 0 P) := fun c => by
          rw [if_neg c] at h
          exact wX11_none hn ⟨by decide, bX11_fewest_65 hn (h _ _ _ rfl (hCG.st 11) (hKG.up (by omega)))⟩
        refine cs_countOf hC0 hI0 hF0 (fun _ _ _ => rfl) (bX11_fewest_46 hn ⟨h2, ⟨by omega, by omega⟩, fun c => no11 (fun z => by have := z.1; omega), fun c => cs_staysLevelBare hC0 hI0 hF0 (fun _ _ _ => rfl) (fun w => ?_) (fun w => ?_)⟩)
        · exact bX11_fewest_56 hn ⟨by decide, fun q => absurd rfl q, fun _ => no11 fun z => w z.2⟩
        · rw [if_pos ⟨c, w⟩] at h
          refine bX11_fewest_56 hn ⟨by decide, fun _ => cs_suspectAll hC0 hI0 hF0 (fun _ _ _ => rfl) hCG.2.1.1 n14 fun G' hg h11 h36 => bX11_fewest_70 hn ?_, fun q => absurd q (by decide)⟩
          rw [h11]
          refine h _ _ _ rfl (hCG.kept hg (fun i q i1 i2 => ?_) ⟨?_, fun i hi => ?_⟩) fun i q hi => (hg i q (by omega) (by omega)).trans (hKG i q hi)
          · unfold kp; rw [if_neg (by omega), if_neg (by omega)]
          · rw [h11]; rfl
          · have hi : (i : Int) < ((wts a0 k (a0 53 5).toNat).length : Int) := hi
            have e : (wts a0 k (a0 53 5).toNat)[i]? = some ((wts a0 k (a0 53 5).toNat)[i]'(by omega)) := List.getElem?_eq_some_iff.mpr ⟨by omega, rfl⟩
            generalize (wts a0 k (a0 53 5).toNat)[i]'(by omega) = x at e
            rw [h36 i x e]
            unfold kp
            rw [if_neg (by omega), if_pos ⟨rfl, by omega⟩, e]
            rfl
      · rw [if_pos q] at h
        generalize (up2 G 1 3 0) = G0 at hF0 ⊢
        generalize (up2 g 1 3 0) = g0 at hC0 hF0 hK0
        generalize (up2 a 53 0 0) = a0 at h hC0 hI0 hF0 n14
        have hCG := hF0.ca hC0
        have hKG := hK0.trans hF0.kr
        refine h _ _ _ rfl (hCG.kept (fun i q i1 i2 => ?_) (fun i q i1 i2 => ?_) ⟨?_, fun i hi => ?_⟩) (hKG.up (by omega))
        · rw [up2_ap, if_neg (by omega)]
        · rw [up2_ap, if_neg (by omega)]
        · rw [up2_s, up2_s]
        · rw [up2_s] at hi; omega
end Fewest2
