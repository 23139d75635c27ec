/-! SHAPES: the class -/
section ShapeC
variable {d n : Nat} {dy : Nat → Shp} {g a G : Hp} {P : Pst} {l : List Nat}
theorem cs_canBeParted {t : Nat} (hC : Ca n dy g a) (hI : Inv a) (hr6 : ∀ q : Nat, (q : Int) < a 55 t → i6 (a 56 (16 * t + q))) (ht : t < 6) (h55 : 0 ≤ a 55 t) (h1 : (2 ≤ a 55 t ∧ a 55 t ≤ 10 ∧ vlO a t (a 55 t).toNat) → P (some (I_ 1)) n (W0 dy) g) (h0 : ¬ (2 ≤ a 55 t ∧ a 55 t ≤ 10 ∧ vlO a t (a 55 t).toNat) → P (some (I_ 0)) n (W0 dy) g) : Runs miX9_canBeParted (d + 2) [.ref (41 + 2 * t)] n (W0 dy) g P := by
  have hn := hC.1
  have tr := tr_ok (dy := dy) hn ht
  have e1 : g (41 + 2 * t) 1 = a 55 t := by
    rcases hC.tk hI ht with ⟨k1, _⟩ | ⟨_, _, _, k4, _⟩
    · omega
    · exact k4
  refine wX9_canBeParted hn ⟨tr, ?_⟩
  rw [e1]
  refine ⟨fun q => h0 (by omega), fun q2 => ⟨fun q10 => ?_, fun q => h0 (by omega)⟩⟩
  have key : ∀ (r i : Nat), ((i + r : Nat) : Int) = a 55 t → (∀ j, j < i → 1 ≤ a 56 (16 * t + j) ∧ a 56 (16 * t + j) ≤ 1000000) → V miX9_canBeParted (d + 1 + 1) 21 [(0, .ref (41 + 2 * t)), (1, I_ (i : Int))] [] n (W0 dy) g 0 0 P := by
    intro r
    induction r with
    | zero =>
      intro i hi hd
      refine bX9_canBeParted_21 hn ⟨tr, ⟨by omega, by omega⟩, ?_⟩
      rw [e1]
      exact ⟨fun _ => h1 ⟨q2, q10, fun j hj => hd j (by omega)⟩, fun q => by omega⟩
    | succ r ih =>
      intro i hi hd
      have no : ¬ (1 ≤ a 56 (16 * t + i) ∧ a 56 (16 * t + i) ≤ 1000000) → P (some (I_ 0)) n (W0 dy) g := fun z => h0 fun w => z (w.2.2 i (by omega))
      refine bX9_canBeParted_21 hn ⟨tr, ⟨by omega, by omega⟩, ?_⟩
      rw [e1]
      refine ⟨fun q => by omega, fun _ => cs_at hC hI ht (by omega) ?_⟩
      refine bX9_canBeParted_34 hn ⟨hr6 i (by omega), fun q => no (by omega), fun q => ⟨tr, cs_at hC hI ht (by omega) ?_⟩⟩
      refine bX9_canBeParted_44 hn ⟨hr6 i (by omega), fun q' => ?_, fun q' => no (by omega)⟩
      rw [show (i : Int) + 1 = ((i + 1 : Nat) : Int) by omega]
      refine ih (i + 1) (by omega) fun j hj => ?_
      by_cases c : j = i
      · rw [c]; exact ⟨q, q'⟩
      · exact hd j (by omega)
  exact key (a 55 t).toNat 0 (by omega) fun j hj => by omega
theorem cs_isShape {k0 : Nat} (hC : Ca n dy g a) (hI : Inv a) (hk : (k0 : Int) < a 53 5) (hF : GF g a G k0 l) (h0 : ¬ ShO a k0 → P (some (I_ 0)) n (W0 dy) G) (h1 : ShO a k0 → P (some (I_ 1)) n (W0 dy) G) : Runs miX1_isShape (d + 2) [.ref 4] n (W0 dy) G P := by
  have hn := hC.1
  have e41 := hF.2.1.1
  have l60 := hF.2.1.2.1
  have hCG := hF.ca hC
  have e3 : G 3 = g 3 := funext fun q => hF.g3 q
  have hm := hF.2.2.2.2.2.1
  obtain ⟨hnn, hn1⟩ := nr_top hI hk
  have hlen : (l.length : Int) = nrS a (k0 : Int) := by
    have := hF.sum (fun _ => 1)
    rw [sumL_len] at this
    rw [this]
    show _ = sd a (fun _ => 1) (k0 : Int)
    unfold sd
    rw [if_pos (by omega : 0 ≤ (k0 : Int))]
    rfl
  refine wX1_isShape hn ⟨⟨by omega, by omega⟩, fun q => h0 fun z => by have := z.2; omega, fun q8 => ?_⟩
  refine cs_hasWholeArms hC hI hF (fun q => ?_) fun hw => ?_
  · refine bX1_isShape_15 hn ⟨by decide, fun z => absurd rfl z, fun _ => h0 fun z => q fun y hy hab rod => ?_⟩
    have := (z.1 y (by omega) hab).2.2
    unfold whI
    rw [if_pos this]; decide
  · refine bX1_isShape_15 hn ⟨by decide, fun _ => ?_, fun z => absurd z (by decide)⟩
    have key : ∀ (r : List Nat) (i : Nat), i ≤ l.length → l.drop i = r → (∀ y, y ∈ l.take i → OKp a y) → V miX1_isShape (d + 2) 22 [(0, .ref 4), (1, I_ (i : Int))] [] n (W0 dy) G 0 0 P := by
      intro r
      induction r with
      | nil =>
        intro i hi hr hx
        have hl := List.drop_eq_nil_iff.mp hr
        refine bX1_isShape_22 hn ⟨⟨by omega, by omega⟩, fun _ => h1 ⟨fun y hy hab => hx y ?_, by omega⟩, fun q => by omega⟩
        rw [List.take_of_length_le hl]
        exact (hm y).mpr ⟨hy, hab⟩
      | cons y r ih =>
        intro i hi hr hx
        obtain ⟨e, er, il⟩ := dropc hr
        have hy := List.mem_of_getElem? e
        obtain ⟨hyN, hya⟩ := (hm y).mp hy
        have hp := hCG.2.2.2.1 y hyN
        have b := hCG.cell hyN
        refine bX1_isShape_22 hn ⟨⟨by omega, by omega⟩, fun q => by omega, fun _ => ⟨⟨by omega, by omega⟩, ?_⟩⟩
        rw [show G 5 ((i : Nat) : Int).toNat = G 3 y from (hF.2.2.1 i y e).trans (hF.g3 y).symm]
        refine cs_asRod hCG hI hyN ⟨fun rod => ?_, fun rod => ?_⟩
        · have e11 : G (G 3 y).toNat 11 = a 58 y := (hp.2.2.2.2.1 rod).2.1.2.1
          refine bX1_isShape_39 hn ⟨fun q => by omega, fun _ => ⟨hp.ob rod, ?_⟩⟩
          rw [e11]
          refine ⟨fun q => ?_, fun q => h0 fun z => q (z.1 y hyN hya).2.1⟩
          rw [show ((i : Nat) : Int) + 1 = ((i + 1 : Nat) : Int) by omega]
          refine ih (i + 1) (by omega) er fun z hz => ?_
          rcases (mem_tk e).mp hz with q' | q'
          · exact hx z q'
          · rw [q']
            refine ⟨rod, q, ?_⟩
            have := hw y (by omega) hya rod
            unfold whI at this
            split at this
            · next t => exact t
            · exact absurd rfl this
        · exact bX1_isShape_39 hn ⟨fun _ => h0 fun z => rod (z.1 y hyN hya).1, fun q => absurd q (Nat.lt_irrefl 0)⟩
    exact key l 0 (by omega) rfl (fun y hy => by simp at hy)
/-- the class's words for the tray and the part -/
theorem cs_given {x1 x2 : Int} (hC : Ca n dy g a) (hI : Inv a) (h1 : i3 x1) (h2 : i3 x2) (hb1 : (x2 < 0 ∨ 6 ≤ x2) → P (some (I_ 1)) n (W0 dy) g) (hb2 : ¬ (x2 < 0 ∨ 6 ≤ x2) → ¬ (0 ≤ x1 ∧ x1 < a 53 5) → P (some (I_ 2)) n (W0 dy) g) (hb3 : ¬ (x2 < 0 ∨ 6 ≤ x2) → (0 ≤ x1 ∧ x1 < a 53 5) → a 55 x2.toNat < 0 → P (some (I_ 3)) n (W0 dy) g) (h0 : ¬ (x2 < 0 ∨ 6 ≤ x2) → (0 ≤ x1 ∧ x1 < a 53 5) → ¬ a 55 x2.toNat < 0 → P (some (I_ 0)) n (W0 dy) g) : Runs miX11_givenStatus (d + 1) [.ref 1, I_ x1, I_ x2] n (W0 dy) g P := by
  have hn := hC.1
  refine wX11_givenStatus hn (cs_trayAt hC h2 ⟨fun q => ?_, fun q0 q6 => ?_⟩)
  · exact bX11_givenStatus_5 hn ⟨fun z => absurd z (Nat.lt_irrefl 0), fun _ => hb1 q⟩
  · have ht : x2.toNat < 6 := by omega
    have tr := tr_ok (dy := dy) hn ht
    refine bX11_givenStatus_5 hn ⟨fun _ => cs_partAt hC hI h1 ⟨fun q => ?_, fun q1 q2 => ?_⟩, fun q => by omega⟩
    · exact bX11_givenStatus_17 hn ⟨fun z => absurd z (Nat.lt_irrefl 0), fun _ => hb2 (by omega) (by omega)⟩
    · have b := hC.cell (k := x1.toNat) (by omega)
      refine bX11_givenStatus_17 hn ⟨fun _ => ⟨tr, ?_⟩, fun q => by omega⟩
      rcases hC.tk hI ht with ⟨c1, c2⟩ | ⟨c1, c2, c3, c4, c5⟩
      · exact wX9_isMissing hn ⟨tr, fun q => absurd c2 q, fun _ => bX11_givenStatus_26 hn ⟨by decide, fun q => absurd q (by decide), fun _ => hb3 (by omega) ⟨q1, q2⟩ (by omega)⟩⟩
      · exact wX9_isMissing hn ⟨tr, fun _ => bX11_givenStatus_26 hn ⟨by decide, fun _ => h0 (by omega) ⟨q1, q2⟩ (by omega), fun q => absurd rfl q⟩, fun q => by omega⟩
/-- the class's words for the shape -/
theorem cs_shapeStatus {k t : Nat} (hC : Ca n dy g a) (hI : Inv a) (hr6 : ∀ q : Nat, (q : Int) < a 55 t → i6 (a 56 (16 * t + q))) (hk : (k : Int) < a 53 5) (ht : t < 6) (h55 : 0 ≤ a 55 t)
    (hb : ∀ (s : Int) (G : Hp), Ca n dy G a → Kr g G → s = ic (¬ (a 57 k = 2 ∨ a 57 k = 3)) 5 (ic (a 55 t < 2 ∨ 10 < a 55 t ∨ ¬ vlO a t (a 55 t).toNat) 7 (ic (0 ≤ a 60 k) 8 (ic (¬ ShO a k) 9 0))) → 0 < s → P (some (I_ s)) n (W0 dy) G)
    (h0 : ∀ G : Hp, Ca n dy G a → Kr g G → (∀ q, G 3 q = g 3 q) → (a 57 k = 2 ∨ a 57 k = 3) → (2 ≤ a 55 t ∧ a 55 t ≤ 10 ∧ vlO a t (a 55 t).toNat) → a 60 k < 0 → ShO a k → P (some (I_ 0)) n (W0 dy) G) : Runs miX11_shapeStatus (d + 3) [.ref 1, .ref (g 3 k).toNat, .ref (41 + 2 * t)] n (W0 dy) g P := by
  have hn := hC.1
  have tr := tr_ok (dy := dy) hn ht
  have bk := hC.cell hk
  obtain ⟨u1, u2⟩ := above_b hC hI hk
  refine wX11_shapeStatus hn (cs_asRod hC hI hk ⟨fun rod => ?_, fun rod => ?_⟩)
  · refine bX11_shapeStatus_4 hn ⟨fun _ => ⟨fun q => by omega, fun _ => ⟨tr, cs_canBeParted hC hI hr6 ht h55 (fun c7 => ?_) (fun c7 => ?_)⟩⟩, fun q => by omega⟩
    · refine bX11_shapeStatus_17 hn ⟨by decide, fun _ => ⟨(hC.2.2.2.1 k hk).pt (hI.2.2.1 k hk).2, fun q => ?_, fun q => ?_⟩, fun z => absurd z (by decide)⟩
      · have z : a 60 k < 0 := by
          by_cases z : a 60 k < 0
          · exact z
          · obtain ⟨-, v2, v3, -⟩ := u2 (by omega)
            rw [v2] at q; omega
        refine cs_gather hC hI hk fun G l hF => bX11_shapeStatus_41 hn (cs_isShape hC hI hk hF (fun no => ?_) (fun ok => ?_))
        · refine bX11_shapeStatus_48 hn ⟨by decide, fun _ => ?_, fun z => absurd rfl z⟩
          refine hb 9 G (hF.ca hC) hF.kr ?_ (by decide)
          rw [ic_f (fun z => z rod), ic_f (by rintro (w | w | w); omega; omega; exact w c7.2.2), ic_f (by omega), ic_t no]
        · exact bX11_shapeStatus_48 hn ⟨by decide, fun z => absurd z (by decide), fun _ => h0 G (hF.ca hC) hF.kr (fun q => hF.g3 q) rod c7 z ok⟩
      · have z : 0 ≤ a 60 k := by
          by_cases z : a 60 k < 0
          · rw [u1 z] at q; exact absurd q (by decide)
          · omega
        refine hb 8 g hC (Kr.refl g) ?_ (by decide)
        rw [ic_f (fun z => z rod), ic_f (by rintro (w | w | w); omega; omega; exact w c7.2.2), ic_t z]
    · refine bX11_shapeStatus_17 hn ⟨by decide, fun z => absurd rfl z, fun _ => hb 7 g hC (Kr.refl g) ?_ (by decide)⟩
      rw [ic_f (fun z => z rod), ic_t]
      by_cases w1 : a 55 t < 2
      · exact Or.inl w1
      · by_cases w2 : 10 < a 55 t
        · exact Or.inr (Or.inl w2)
        · exact Or.inr (Or.inr fun w => c7 ⟨by omega, by omega, w⟩)
  · refine bX11_shapeStatus_4 hn ⟨fun z => absurd z (Nat.lt_irrefl 0), fun _ => hb 5 g hC (Kr.refl g) ?_ (by decide)⟩
    rw [ic_t rod]
end ShapeC
