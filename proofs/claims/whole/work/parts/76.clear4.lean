/-! CLEAR: the class prepares -/
section Clear4
variable {d n : Nat} {dy : Nat → Shp} {g a G0 G : Hp} {P : Pst} {k0 : Nat} {l : List Nat}
theorem SCg.trans {G1 G2 : Hp} (h : SCg G0 G1) (h' : SCg G1 G2) : SCg G0 G2 := fun i q hi => (h' i q hi).trans (h i q hi)
theorem cs_prepare (hC : Ca n dy g a) (hI : Inv a) (hF : GF g a G0 k0 l) (h0 : a 60 k0 < 0) (h : ∀ G, SCg G0 G → OF g G (hgs a k0 (a 53 5).toNat) → WD a G k0 (wpl a l) → (G 11 4 = 0 ∧ G 11 9 = 0 ∧ G 11 10 = 0) → P none n (W0 dy) G) : Runs miX11_prepareClearing (d + 4) [.ref 1] n (W0 dy) G0 P := by
  have hn := hC.1
  have hN := hI.1
  have hm := hF.2.2.2.2.2.1
  have nd := hF.2.1.2.2
  have l60 := hF.2.1.2.1
  have e41 := hF.2.1.1
  have e12 : G0 1 2 = a 53 5 := (hF.1 1 2 (by decide) (by decide) (Or.inl (by decide))).trans hC.2.1.1
  have p435 : ((wpl a l).length : Int) ≤ 435 := by rw [wpl_len]; exact pairs435 hI nd hm 5
  -- the second loops
  have outer : ∀ (r : List Nat) (i : Nat) (G : Hp) (W : List (Nat × Nat)), i ≤ l.length → l.drop i = r → W ++ wpl a r = wpl a l → SCg G0 G → OF g G (hgs a k0 (a 53 5).toNat) → WD a G k0 W → (G 11 4 = 0 ∧ G 11 9 = 0 ∧ G 11 10 = 0) → V miX11_prepareClearing (d + 4) 62 [(0, .ref 1), (1, I_ (i : Int))] [] n (W0 dy) G 0 0 P := by
    intro r
    induction r with
    | nil =>
      intro i G W hi hr hw hS hO hW hz
      have hl := List.drop_eq_nil_iff.mp hr
      have hw : W ++ [] = wpl a l := hw
      rw [List.append_nil] at hw
      have e4 := hS 4 1 (by decide)
      refine bX11_prepareClearing_62 hn ⟨⟨by omega, by omega⟩, fun _ => ?_, fun q => by omega⟩
      rw [hw] at hW
      exact h G hS hO hW hz
    | cons z r ih =>
      intro i G W hi hr hw hS hO hW hz
      obtain ⟨e, er, il⟩ := dropc hr
      have hzl := List.mem_of_getElem? e
      have inner : ∀ (r' : List Nat) (j : Nat) (G : Hp) (W : List (Nat × Nat)), i < j → j ≤ l.length → l.drop j = r' → W ++ (wpi a z r' ++ wpl a r) = wpl a l → SCg G0 G → OF g G (hgs a k0 (a 53 5).toNat) → WD a G k0 W → (G 11 4 = 0 ∧ G 11 9 = 0 ∧ G 11 10 = 0) → V miX11_prepareClearing (d + 4) 77 [(0, .ref 1), (1, I_ (i : Int)), (2, I_ (j : Int))] [] n (W0 dy) G 0 0 P := by
        intro r'
        induction r' with
        | nil =>
          intro j G W hij hj hr' hw hS hO hW hz
          have hl := List.drop_eq_nil_iff.mp hr'
          have hw : W ++ ([] ++ wpl a r) = wpl a l := hw
          rw [List.nil_append] at hw
          have e4 := hS 4 1 (by decide)
          refine bX11_prepareClearing_77 hn ⟨⟨by omega, by omega⟩, fun _ => ?_, fun q => by omega⟩
          rw [show ((i : Nat) : Int) + 1 = ((i + 1 : Nat) : Int) by omega]
          exact ih (i + 1) G W (by omega) er hw hS hO hW hz
        | cons y r' ih' =>
          intro j G W hij hj hr' hw hS hO hW hz
          obtain ⟨e', er', jl⟩ := dropc hr'
          have hyl := List.mem_of_getElem? e'
          have e4 := hS 4 1 (by decide)
          have un : wpi a z (y :: r') = if cmI a 5 z y = 1 then (z, y) :: wpi a z r' else wpi a z r' := rfl
          rw [un] at hw
          have b1 : G 5 ((i : Nat) : Int).toNat = g 3 z := (hS 5 i (by decide)).trans (hF.2.2.1 i z e)
          have b2 : G 5 ((j : Nat) : Int).toNat = g 3 y := (hS 5 j (by decide)).trans (hF.2.2.1 j y e')
          obtain ⟨hFm, hCm, e3m⟩ := hF.mvc hC hS
          refine bX11_prepareClearing_77 hn ⟨⟨by omega, by omega⟩, fun q => by omega, fun _ => ⟨⟨by omega, by omega⟩, ⟨by omega, by omega⟩, ?_⟩⟩
          rw [b1, b2, ← e3m]
          refine cs_canMeet hCm hI hFm (fun _ _ _ _ => rfl) h0 hzl hyl (nd_ne nd e e' (by omega)) (by decide) fun G2 hG2 => ?_
          have hS2 : SCg G0 G2 := hS.trans fun i q hi => hG2 i q (by omega) (by omega)
          have hO2 : OF g G2 (hgs a k0 (a 53 5).toNat) := ⟨(hG2 11 2 (by decide) (by decide)).trans hO.1, fun i h e => by rw [hG2 12 i (by decide) (by decide), hG2 13 i (by decide) (by decide)]; exact hO.2 i h e⟩
          have hW2 : WD a G2 k0 W := hW.mv fun i q hi => hG2 i q (by omega) (by omega)
          have hz2 : G2 11 4 = 0 ∧ G2 11 9 = 0 ∧ G2 11 10 = 0 := by
            rw [hG2 11 4 (by decide) (by decide), hG2 11 9 (by decide) (by decide), hG2 11 10 (by decide) (by decide)]; exact hz
          have cb := cmI_b a 5 z y
          refine bX11_prepareClearing_111 hn ⟨⟨by omega, by omega⟩, fun q => ?_, fun q => ⟨⟨by omega, by omega⟩, ⟨by omega, by omega⟩, ?_⟩⟩
          · rw [if_neg (by omega)] at hw
            refine bX11_prepareClearing_139 hn ?_
            rw [show ((j : Nat) : Int) + 1 = ((j + 1 : Nat) : Int) by omega]
            exact ih' (j + 1) G2 W (by omega) (by omega) er' hw hS2 hO2 hW2 hz2
          · rw [if_pos (by omega)] at hw
            obtain ⟨hFn, hCn, e3n⟩ := hF.mvc hC hS2
            have c1 : G2 5 ((i : Nat) : Int).toNat = g 3 z := (hS2 5 i (by decide)).trans (hF.2.2.1 i z e)
            have c2 : G2 5 ((j : Nat) : Int).toNat = g 3 y := (hS2 5 j (by decide)).trans (hF.2.2.1 j y e')
            rw [c1, c2, ← e3n]
            have ll : W.length < 435 := by
              have := congrArg List.length hw
              rw [List.length_append, List.length_append] at this
              have : W.length + (((wpi a z r').length + 1) + (wpl a r).length) = (wpl a l).length := this
              omega
            refine cs_watch hCn hI hFn hzl hyl hW2 ll fun G3 hG3 hW3 => bX11_prepareClearing_139 hn ?_
            rw [show ((j : Nat) : Int) + 1 = ((j + 1 : Nat) : Int) by omega]
            refine ih' (j + 1) G3 (W ++ [(z, y)]) (by omega) (by omega) er' ?_ (hS2.trans fun i q hi => hG3 i q (by omega) (by omega) (by omega) (by omega)) ⟨(hG3 11 2 (by decide) (by decide) (by decide) (Or.inr (by decide))).trans hO2.1, fun i h e => ?_⟩ hW3 ?_
            · rw [List.append_assoc]; exact hw
            · rw [hG3 12 i (by decide) (by decide) (by decide) (Or.inl (by decide)), hG3 13 i (by decide) (by decide) (by decide) (Or.inl (by decide))]; exact hO2.2 i h e
            · rw [hG3 11 4 (by decide) (by decide) (by decide) (Or.inr (by decide)), hG3 11 9 (by decide) (by decide) (by decide) (Or.inr (by decide)), hG3 11 10 (by decide) (by decide) (by decide) (Or.inr (by decide))]; exact hz2
      have e4 := hS 4 1 (by decide)
      refine bX11_prepareClearing_62 hn ⟨⟨by omega, by omega⟩, fun q => by omega, fun _ => ?_⟩
      rw [show ((i : Nat) : Int) + 1 = ((i + 1 : Nat) : Int) by omega]
      exact inner r (i + 1) G W (by omega) (by omega) er hw hS hO hW hz
  -- the first loop
  have one : ∀ (t i : Nat) (G : Hp), (t : Int) + i = a 53 5 → SCg G0 G → OF g G (hgs a k0 i) → (G 11 8 = 0 ∧ G 11 4 = 0 ∧ G 11 9 = 0 ∧ G 11 10 = 0) → V miX11_prepareClearing (d + 4) 9 [(0, .ref 1), (1, I_ (i : Int))] [] n (W0 dy) G 0 0 P := by
    intro t
    induction t with
    | zero =>
      intro i G hi hS hO hz
      have e5 := (hS 1 2 (by decide)).trans e12
      refine bX11_prepareClearing_9 hn ⟨⟨by omega, by omega⟩, fun _ => ?_, fun q => by omega⟩
      rw [show i = (a 53 5).toNat by omega] at hO
      exact outer l 0 G [] (Nat.zero_le _) rfl rfl hS hO ⟨hz.1, fun p q e => by simp at e⟩ hz.2
    | succ t ih =>
      intro i G hi hS hO hz
      have e5 := (hS 1 2 (by decide)).trans e12
      have hiN : (i : Int) < a 53 5 := by omega
      have b := hC.cell hiN
      have e3 : G 3 ((i : Nat) : Int).toNat = g 3 i := (hS 3 i (by decide)).trans (hF.g3 i)
      have pt : Pt n (W0 dy) (g 3 i).toNat := (hC.2.2.2.1 i hiN).pt (hI.2.2.1 i hiN).2
      obtain ⟨u1, u2⟩ := above_b hC hI hiN
      have k : ∀ q, q < 6 → G (g 3 i).toNat q = g (g 3 i).toNat q := fun q hq => (hS _ q (by omega)).trans (hF.1 _ q (by omega) (by omega) (by omega))
      have nl := (hgs_nd (a := a) (k := k0) i).2
      have skip : ¬ (abv (a 60) k0 60 i = true ∧ 0 ≤ a 60 i ∧ a 62 i < 1000) → ∀ r2 : Nat, V miX11_prepareClearing (d + 4) 54 [(0, .ref 1), (1, I_ (i : Int)), (2, .ref r2)] [] n (W0 dy) G 0 0 P := fun z r2 => by
        refine bX11_prepareClearing_54 hn ?_
        rw [show ((i : Nat) : Int) + 1 = ((i + 1 : Nat) : Int) by omega]
        refine ih (i + 1) G (by omega) hS ?_ hz
        have e : hgs a k0 (i + 1) = hgs a k0 i := if_neg z
        rw [e]; exact hO
      refine bX11_prepareClearing_9 hn ⟨⟨by omega, by omega⟩, fun q => by omega, fun _ => ⟨⟨by omega, by omega⟩, ?_⟩⟩
      rw [e3, k 3 (by decide)]
      refine ⟨fun q => by omega, fun _ => ⟨pt, fun q => skip (fun z => ?_) _, fun q => ?_⟩⟩
      · obtain ⟨-, v2, v3, -⟩ := u2 z.2.1
        rw [v2] at q; omega
      · have on0 : 0 ≤ a 60 i := by
          by_cases z : a 60 i < 0
          · rw [u1 z] at q; exact absurd q (by decide)
          · omega
        have e0 : G (g 3 i).toNat 0 = (i : Int) := (k 0 (by decide)).trans (hC.2.2.2.1 i hiN).2.1.1
        have e62 : G (g 3 i).toNat 5 = a 62 i := (k 5 (by decide)).trans (hC.known hiN).1.2.2
        have hbi : hb (G 4 2) i ↔ abv (a 60) k0 60 i = true := by
          rw [hS 4 2 (by decide), hF.2.2.2.1 i (by omega), hm i]
          exact ⟨fun z => z.2, fun z => ⟨hiN, z⟩⟩
        refine wX1_holds hn ⟨pt, wX2_bit hn ⟨pt, ?_⟩⟩
        rw [e0]
        refine bX1_holds_8 hn ⟨fun z => ?_, fun z => ?_⟩
        · have na : ¬ abv (a 60) k0 60 i = true := fun w => (hb_and (by omega)).mpr (hbi.mpr w) z
          exact bX11_prepareClearing_43 hn ⟨by decide, fun _ => skip (fun w => na w.1) _, fun w => absurd rfl w⟩
        · have ab := hbi.mp ((hb_and (by omega)).mp z)
          refine bX11_prepareClearing_43 hn ⟨by decide, fun w => absurd w (by decide), fun _ => ?_⟩
          have e2 := hO.1
          refine wX0_offer hn ⟨fun q => by omega, fun _ => ⟨pt, fun q => skip (fun w => by omega) _, fun q => ⟨⟨by omega, by omega⟩, ⟨by omega, by omega⟩, bX11_prepareClearing_54 hn ?_⟩⟩⟩
          rw [show ((i : Nat) : Int) + 1 = ((i + 1 : Nat) : Int) by omega, show (G 11 2).toNat = (hgs a k0 i).length by omega]
          have e : hgs a k0 (i + 1) = hgs a k0 i ++ [i] := if_pos ⟨ab, on0, by omega⟩
          refine ih (i + 1) _ (by omega) (hS.trans fun j q hj => by rw [up2_i (by omega), up2_i (by omega), up2_i (by omega)]) ⟨?_, fun j h ej => ?_⟩ ?_
          · rw [up2_s, e, e2, List.length_append]; rfl
          · rw [e] at ej
            have r12 : ∀ u v w : Int, up2 (up2 (up2 G 12 (hgs a k0 i).length u) 13 (hgs a k0 i).length v) 11 2 w 12 j = if j = (hgs a k0 i).length then u else G 12 j := fun u v w => by rw [up2_i (by decide), up2_i (by decide), up2_k]
            have r13 : ∀ u v w : Int, up2 (up2 (up2 G 12 (hgs a k0 i).length u) 13 (hgs a k0 i).length v) 11 2 w 13 j = if j = (hgs a k0 i).length then v else G 13 j := fun u v w => by rw [up2_i (by decide), up2_k, up2_i (by decide)]
            rw [r12, r13]
            clear r12 r13
            generalize hgs a k0 i = L at *
            by_cases c : j < L.length
            · rw [List.getElem?_append_left c] at ej
              rw [if_neg (by omega), if_neg (by omega)]; exact hO.2 j h ej
            · rw [List.getElem?_append_right (by omega)] at ej
              have hlt := (List.getElem?_eq_some_iff.mp ej).1
              have hlt : j - L.length < 1 := hlt
              rw [show j - L.length = 0 by omega] at ej
              have ej : i = h := by simpa using ej
              rw [if_pos (by omega), if_pos (by omega), ← ej]
              exact ⟨by omega, rfl⟩
          · rw [up2_k, if_neg (by decide), up2_k, if_neg (by decide), up2_k, if_neg (by decide), up2_k, if_neg (by decide)]
            exact hz
  refine wX11_prepareClearing hn (wX0_begin hn (bX11_prepareClearing_7 hn (one (a 53 5).toNat 0 _ (by omega) (fun i q hi => ?_) ⟨?_, fun i h e => by simp [hgs] at e⟩ ⟨?_, ?_, ?_, ?_⟩)))
  · rw [up2_i (by omega), up2_i (by omega), up2_i (by omega), up2_i (by omega), up2_i (by omega)]
  · rfl
  · rfl
  · rfl
  · rfl
  · rfl
end Clear4
