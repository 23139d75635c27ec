/-! CLASHES: the class's loops; the reference -/
section Clashes2
variable {d n : Nat} {dy : Nat → Shp} {g a G G0 : Hp} {P : Pst} {l : List Nat}
theorem nd_ne {i j x y : Nat} (nd : l.Nodup) (e1 : l[i]? = some x) (e2 : l[j]? = some y) (h : i ≠ j) : x ≠ y := fun e => by
  have il := (List.getElem?_eq_some_iff.mp e1).1
  exact h ((List.getElem?_inj il nd).mp (by rw [e1, e2, e]))
theorem GF.st {k0 : Nat} {w : Int} (hC : Ca n dy g a) (hF : GF g a G k0 l) : GF (up2 g 1 3 w) (up2 a 53 0 w) (up2 G 1 3 w) k0 l := by
  obtain ⟨f1, f2, f3, f4, f5, f6, f7⟩ := hF
  refine ⟨fun i q h1 h2 h3 => ?_, f2, f3, f4, f5, f6, fun j hj => ?_⟩
  · unfold up2; rw [f1 i q h1 h2 h3]
  · have b := hC.cell ((f6 j).mp hj).1
    have e : ∀ q, up2 G 1 3 w (g 3 j).toNat q = G (g 3 j).toNat q := fun q => up2_i (by omega)
    show up2 G 1 3 w (g 3 j).toNat 7 = _ ∧ (∀ i : Nat, i < 60 → (hb (up2 G 1 3 w (g 3 j).toNat 6) i ↔ _)) ∧ up2 G 1 3 w (g 3 j).toNat 8 = _ ∧ up2 G 1 3 w (g 3 j).toNat 9 = _
    rw [e, e, e, e]
    exact f7 j hj
theorem cs_clashes {x1 : Int} (hC : Ca n dy g a) (hI : Inv a) (h1 : i3 x1) (h : ∀ v a' g', opClashes (up2 a 53 0 0) x1 = (v, a') → Ca n dy g' a' → Kr g g' → P (some (I_ v)) n (W0 dy) g') : Runs miX11_clashes (d + 4) [.ref 1, I_ x1] n (W0 dy) g P := by
  have hn := hC.1
  have et := whT_st a 0 x1
  refine wX11_clashes hn (cs_wholeTop hC hI h1 (fun G hCG hKG hp => ?_) (fun k G l e hk h0 hw ht hF => ?_))
  · refine bX11_clashes_6 hn ⟨?_, fun q => by omega, fun _ => h _ _ _ ?_ (hCG.st2 0 _) (hKG.up (by omega))⟩
    · unfold whT topI
      repeat' split
      all_goals decide
    · unfold opClashes; rw [et]; exact if_pos hp
  · subst e
    have hC0 := hC.st 0
    have hI0 : Inv (up2 a 53 0 0) := hI
    have hF0 := hF.st (w := 0) hC
    have hK0 : Kr g (up2 g 1 3 0) := (Kr.refl g).up (by omega)
    have hk0 : (k : Int) < up2 a 53 0 0 53 5 := hk
    have h00 : up2 a 53 0 0 60 k < 0 := h0
    have hw0 : cWh (up2 a 53 0 0) k := hw
    have eop : opClashes (up2 a 53 0 0) (k : Int) = (cntM (up2 a 53 0 0) k, up2 a 53 0 0) := by
      unfold opClashes; exact if_neg (by rw [et, ht]; decide)
    rw [eop] at h
    refine bX11_clashes_6 hn ⟨by decide, fun _ => ?_, fun q => absurd rfl q⟩
    generalize (up2 G 1 3 0) = G0 at hF0 ⊢
    generalize (up2 g 1 3 0) = g0 at hC0 hF0 hK0
    generalize (up2 a 53 0 0) = a0 at h hC0 hI0 hF0 hk0 h00 hw0
    clear hC hI hF et eop h0 hw hk ht
    have e41 := hF0.2.1.1
    have l60 := hF0.2.1.2.1
    have nd := hF0.2.1.2.2
    have hm := hF0.2.2.2.2.2.1
    have hCG := hF0.ca hC0
    have hKG := hK0.trans hF0.kr
    have tot := pair_cnt hI0 h00 hw0 nd hm
    have fin : ∀ G, S9 G0 G → P (some (I_ (cntM a0 k))) n (W0 dy) G := fun G hG => h _ _ _ rfl (hCG.keep fun i q hi => hG i q (cl_ne (Or.inl rfl) hi) (cl_ne (Or.inr rfl) hi)) fun i q hi => (hG i q (by omega) (by omega)).trans (hKG i q hi)
    have b5 : ∀ G (i y : Nat), S9 G0 G → l[i]? = some y → G 5 i = g0 3 y := fun G i y hG e => (hG 5 i (by decide) (by decide)).trans (hF0.2.2.1 i y e)
    have outer : ∀ (r : List Nat) (i : Nat) (x2 : Int) (G : Hp), i ≤ l.length → l.drop i = r → x2 + pairSum (cmI a0 0) r = pairSum (cmI a0 0) l → S9 G0 G → V miX11_clashes (d + 4) 22 [(0, .ref 1), (1, I_ (k : Int)), (2, I_ x2), (3, I_ (i : Int))] [] n (W0 dy) G 0 0 P := by
      intro r
      induction r with
      | nil =>
        intro i x2 G hi hr hx hG
        have hl := List.drop_eq_nil_iff.mp hr
        have hx : x2 + 0 = pairSum (cmI a0 0) l := hx
        have e4 := hG 4 1 (by decide) (by decide)
        refine bX11_clashes_22 hn ⟨⟨by omega, by omega⟩, fun _ => ?_, fun q => by omega⟩
        rw [show x2 = cntM a0 k by omega]
        exact fin G hG
      | cons z r ih =>
        intro i x2 G hi hr hx hG
        obtain ⟨e, er, il⟩ := dropc hr
        have hz := List.mem_of_getElem? e
        have inner : ∀ (r' : List Nat) (j : Nat) (x2 : Int) (G : Hp), i < j → j ≤ l.length → l.drop j = r' → x2 + (sumL (cmI a0 0 z) r' + pairSum (cmI a0 0) r) = pairSum (cmI a0 0) l → S9 G0 G → V miX11_clashes (d + 4) 38 [(0, .ref 1), (1, I_ (k : Int)), (2, I_ x2), (3, I_ (i : Int)), (4, I_ (j : Int))] [] n (W0 dy) G 0 0 P := by
          intro r'
          induction r' with
          | nil =>
            intro j x2 G hij hj hr' hx hG
            have hl := List.drop_eq_nil_iff.mp hr'
            have hx : x2 + (0 + pairSum (cmI a0 0) r) = pairSum (cmI a0 0) l := hx
            have e4 := hG 4 1 (by decide) (by decide)
            refine bX11_clashes_38 hn ⟨⟨by omega, by omega⟩, fun _ => ?_, fun q => by omega⟩
            rw [show ((i : Nat) : Int) + 1 = ((i + 1 : Nat) : Int) by omega]
            exact ih (i + 1) x2 G (by omega) er (by omega) hG
          | cons y r' ih' =>
            intro j x2 G hij hj hr' hx hG
            obtain ⟨e', er', jl⟩ := dropc hr'
            have hy := List.mem_of_getElem? e'
            have hx : x2 + ((cmI a0 0 z y + sumL (cmI a0 0 z) r') + pairSum (cmI a0 0) r) = pairSum (cmI a0 0) l := hx
            have e4 := hG 4 1 (by decide) (by decide)
            refine bX11_clashes_38 hn ⟨⟨by omega, by omega⟩, fun q => by omega, fun _ => ⟨⟨by omega, by omega⟩, ⟨by omega, by omega⟩, ?_⟩⟩
            rw [show G 5 ((i : Nat) : Int).toNat = g0 3 z from b5 G i z hG e, show G 5 ((j : Nat) : Int).toNat = g0 3 y from b5 G j y hG e']
            refine cs_canMeet hC0 hI0 hF0 hG h00 hz hy (nd_ne nd e e' (by omega)) (by decide) fun G' hG' => ?_
            have cb : cmI a0 0 z y = 0 ∨ cmI a0 0 z y = 1 := by unfold cmI; split <;> omega
            refine bX11_clashes_74 hn ⟨⟨by omega, by omega⟩, fun q => ?_, fun q => ?_⟩
            · rw [show ((j : Nat) : Int) + 1 = ((j + 1 : Nat) : Int) by omega]
              exact ih' (j + 1) x2 G' (by omega) (by omega) er' (by omega) hG'
            · rw [show ((j : Nat) : Int) + 1 = ((j + 1 : Nat) : Int) by omega]
              exact ih' (j + 1) (x2 + 1) G' (by omega) (by omega) er' (by omega) hG'
        have e4 := hG 4 1 (by decide) (by decide)
        have hx : x2 + (sumL (cmI a0 0 z) r + pairSum (cmI a0 0) r) = pairSum (cmI a0 0) l := hx
        refine bX11_clashes_22 hn ⟨⟨by omega, by omega⟩, fun q => by omega, fun _ => ?_⟩
        rw [show ((i : Nat) : Int) + 1 = ((i + 1 : Nat) : Int) by omega]
        exact inner r (i + 1) x2 G (by omega) (by omega) er hx hG
    exact outer l 0 0 G0 (by omega) rfl (by omega) (fun _ _ _ _ => rfl)
end Clashes2
