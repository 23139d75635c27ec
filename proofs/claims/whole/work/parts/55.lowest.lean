/-! LOWEST: the class -/
def hh (a : Hp) (y : Nat) : Int := hgt (a 60) (a 62) 60 y
/-- the lowest of the first m, as the reference finds it -/
def lowF (a : Hp) (k0 : Nat) : Nat → Int
  | 0 => -1
  | m + 1 => if abv (a 60) k0 60 m = true then (if lowF a k0 m < 0 then (m : Int) else if hh a (lowF a k0 m).toNat < hh a m then (m : Int) else lowF a k0 m) else lowF a k0 m
theorem lowF_sp (a : Hp) (k0 : Nat) : ∀ m : Nat, (lowF a k0 m = -1 ∧ ∀ y, y < m → ¬ abv (a 60) k0 60 y = true) ∨ ∃ w : Nat, lowF a k0 m = (w : Int) ∧ w < m ∧ abv (a 60) k0 60 w = true ∧ ∀ y, y < m → abv (a 60) k0 60 y = true → hh a y < hh a w ∨ (hh a y = hh a w ∧ w ≤ y)
  | 0 => Or.inl ⟨rfl, fun y hy => by omega⟩
  | m + 1 => by
    have ih := lowF_sp a k0 m
    unfold lowF
    by_cases c : abv (a 60) k0 60 m = true
    · rw [if_pos c]
      right
      rcases ih with ⟨e, h⟩ | ⟨w, e, h1, h2, h3⟩
      · rw [e, if_pos (by omega)]
        refine ⟨m, rfl, by omega, c, fun y hy ha => ?_⟩
        by_cases z : y = m
        · rw [z]; exact Or.inr ⟨rfl, Nat.le_refl _⟩
        · exact absurd ha (h y (by omega))
      · rw [e, if_neg (by omega)]
        show ∃ w' : Nat, (if hh a w < hh a m then (m : Int) else (w : Int)) = (w' : Int) ∧ _
        by_cases q : hh a w < hh a m
        · rw [if_pos q]
          refine ⟨m, rfl, by omega, c, fun y hy ha => ?_⟩
          by_cases z : y = m
          · rw [z]; exact Or.inr ⟨rfl, Nat.le_refl _⟩
          · have := h3 y (by omega) ha
            omega
        · rw [if_neg q]
          refine ⟨w, rfl, by omega, h2, fun y hy ha => ?_⟩
          by_cases z : y = m
          · rw [z]; omega
          · exact h3 y (by omega) ha
    · rw [if_neg c]
      rcases ih with ⟨e, h⟩ | ⟨w, e, h1, h2, h3⟩
      · refine Or.inl ⟨e, fun y hy => ?_⟩
        by_cases z : y = m
        · rw [z]; exact c
        · exact h y (by omega)
      · refine Or.inr ⟨w, e, by omega, h2, fun y hy ha => ?_⟩
        by_cases z : y = m
        · rw [z] at ha; exact absurd ha c
        · exact h3 y (by omega) ha
section Lowest
variable {d n : Nat} {dy : Nat → Shp} {g a : Hp} {P : Pst}
theorem hh_b (hI : Inv a) {y : Nat} (hy : (y : Int) < a 53 5) : 0 ≤ hh a y ∧ hh a y ≤ 60000 := by
  obtain ⟨dp, hD⟩ := hI.dp
  exact hgt_b hD (fun k hk h0 => by have := ((hI.2.2.1 k hk).1.2.2.1 h0).1; omega) 60 y hy
theorem cs_lowestNumber {G : Hp} {k0 : Nat} {l : List Nat} (hC : Ca n dy g a) (hI : Inv a) (hF : GF g a G k0 l) (h : P (some (I_ (lowF a k0 (a 53 5).toNat))) n (W0 dy) G) : Runs miX1_lowestNumber d [.ref 4] n (W0 dy) G P := by
  have hn := hC.1
  have e41 := hF.2.1.1
  have l60 := hF.2.1.2.1
  have hm := hF.2.2.2.2.2.1
  have h0 := hF.2.2.2.2.1
  have hk0 := ((hm k0).mp (List.mem_of_getElem? h0)).1
  have k0b := hh_b hI hk0
  have hN := hI.1.2
  have key : ∀ (r : List Nat) (i : Nat) (x1 x2 : Int), i ≤ l.length → l.drop i = r → ((i = 0 ∧ x1 = -1 ∧ x2 = -1) ∨ ∃ w : Nat, w ∈ l ∧ x1 = (w : Int) ∧ x2 = rh a k0 w ∧ ∀ m y : Nat, m < i → l[m]? = some y → hh a y < hh a w ∨ (hh a y = hh a w ∧ w ≤ y)) → V miX1_lowestNumber d 6 [(0, .ref 4), (1, I_ x1), (2, I_ x2), (3, I_ (i : Int))] [] n (W0 dy) G 0 0 P := by
    intro r
    induction r with
    | nil =>
      intro i x1 x2 hi hr hx
      have hl := List.drop_eq_nil_iff.mp hr
      have l1 := (List.getElem?_eq_some_iff.mp h0).1
      refine bX1_lowestNumber_6 hn ⟨⟨by omega, by omega⟩, fun _ => ?_, fun q => by omega⟩
      rcases hx with hx | ⟨w, w1, w2, w3, w4⟩
      · omega
      · have all : ∀ y, y ∈ l → hh a y < hh a w ∨ (hh a y = hh a w ∧ w ≤ y) := fun y hy => by
          obtain ⟨m, hm2⟩ := List.getElem?_of_mem hy
          exact w4 m y (by have := (List.getElem?_eq_some_iff.mp hm2).1; omega) hm2
        have hw := (hm w).mp w1
        rcases lowF_sp a k0 (a 53 5).toNat with ⟨-, z⟩ | ⟨u, u1, u2, u3, u4⟩
        · exact absurd hw.2 (z w (by omega))
        · have q1 := u4 w (by omega) hw.2
          have q2 := all u ((hm u).mpr ⟨by omega, u3⟩)
          have e : w = u := by omega
          rw [u1, ← e, ← w2] at h
          exact h
    | cons y r ih =>
      intro i x1 x2 hi hr hx
      obtain ⟨e, er, il⟩ := dropc hr
      have hy := List.mem_of_getElem? e
      have hyN := ((hm y).mp hy).1
      have hp := hC.2.2.2.1 y hyN
      have b := hC.cell hyN
      have e0 : G (g 3 y).toNat 0 = (y : Int) := (hF.1 _ 0 (by omega) (by omega) (by omega)).trans hp.2.1.1
      have e7 := (hF.2.2.2.2.2.2 y hy).1
      have yb := hh_b hI hyN
      have ery : rh a k0 y = hh a y - hh a k0 := rfl
      -- y is the lowest so far
      have new : (∀ m z : Nat, m < i → l[m]? = some z → hh a z < hh a y ∨ (hh a z = hh a y ∧ y ≤ z)) → V miX1_lowestNumber d 6 [(0, .ref 4), (1, I_ (y : Int)), (2, I_ (rh a k0 y)), (3, I_ ((i + 1 : Nat) : Int))] [] n (W0 dy) G 0 0 P := fun hq => by
        refine ih (i + 1) _ _ (by omega) er (Or.inr ⟨y, hy, rfl, rfl, fun m z hm2 hz => ?_⟩)
        by_cases c : m = i
        · rw [c, e] at hz
          have : y = z := by simpa using hz
          rw [this]; exact Or.inr ⟨rfl, Nat.le_refl _⟩
        · exact hq m z (by omega) hz
      refine bX1_lowestNumber_6 hn ⟨⟨by omega, by omega⟩, fun q => by omega, fun _ => ⟨⟨by omega, by omega⟩, ?_⟩⟩
      rw [show G 5 ((i : Nat) : Int).toNat = g 3 y from hF.2.2.1 i y e, show ((i : Nat) : Int) + 1 = ((i + 1 : Nat) : Int) by omega, e0, e7]
      refine ⟨hp.pt (hI.2.2.1 y hyN).2, ?_⟩
      rcases hx with ⟨hx1, hx2, hx3⟩ | ⟨w, w1, w2, w3, w4⟩
      · have ek : k0 = y := by rw [hx1, h0] at e; simpa using e
        have ez : rh a k0 y = 0 := by rw [ery, ek]; omega
        rw [hx3]
        refine ⟨by decide, fun _ => new (fun m z hm2 _ => by omega), fun q => by omega⟩
      · have hwN := ((hm w).mp w1).1
        have wb := hh_b hI hwN
        have erw : rh a k0 w = hh a w - hh a k0 := rfl
        have old : (hh a y < hh a w ∨ (hh a y = hh a w ∧ w ≤ y)) → V miX1_lowestNumber d 6 [(0, .ref 4), (1, I_ x1), (2, I_ x2), (3, I_ ((i + 1 : Nat) : Int))] [] n (W0 dy) G 0 0 P := fun hq => by
          refine ih (i + 1) _ _ (by omega) er (Or.inr ⟨w, w1, w2, w3, fun m z hm2 hz => ?_⟩)
          by_cases c : m = i
          · rw [c, e] at hz
            have : y = z := by simpa using hz
            rw [← this]; exact hq
          · exact w4 m z (by omega) hz
        refine ⟨⟨by omega, by omega⟩, fun q => new (fun m z hm2 hz => by have := w4 m z hm2 hz; omega), fun q => ⟨fun q2 => old (by omega), fun q2 => ⟨⟨by omega, by omega⟩, fun q3 => old (by omega), fun q3 => new (fun m z hm2 hz => by have := w4 m z hm2 hz; omega)⟩⟩⟩
  exact wX1_lowestNumber hn (key l 0 (-1) (-1) (by omega) rfl (Or.inl ⟨rfl, rfl, rfl⟩))
def opLowest (a : Hp) (x1 : Int) : Int × Hp := if 0 < topI a x1 then (-1, up2 a 53 0 (topI a x1)) else (lowF a x1.toNat (a 53 5).toNat, a)
theorem cs_lowest {x1 : Int} (hC : Ca n dy g a) (hI : Inv a) (h1 : i3 x1) (h : ∀ v a' g', opLowest (up2 a 53 0 0) x1 = (v, a') → Ca n dy g' a' → Kr g g' → P (some (I_ v)) n (W0 dy) g') : Runs miX11_lowest (d + 3) [.ref 1, I_ x1] n (W0 dy) g P := by
  have hn := hC.1
  refine wX11_lowest hn (cs_topGiven hC hI h1 ⟨fun c => ?_, fun c => ?_⟩)
  · refine bX11_lowest_5 hn ⟨fun q => absurd q (Nat.lt_irrefl 0), fun _ => h _ _ _ ?_ (hC.st2 0 _) ((Kr.refl g).up (by omega))⟩
    unfold opLowest; exact if_pos c
  · obtain ⟨c1, c2, c3⟩ := topI_0 c
    obtain ⟨k, rfl⟩ := exN c1
    have hC0 := hC.st 0
    have hI0 : Inv (up2 a 53 0 0) := hI
    have hb := hC.cell (k := k) c2
    have eop : opLowest (up2 a 53 0 0) (k : Int) = (lowF (up2 a 53 0 0) k (up2 a 53 0 0 53 5).toNat, up2 a 53 0 0) := by
      unfold opLowest; exact if_neg (by rw [show topI (up2 a 53 0 0) (k : Int) = topI a (k : Int) from rfl, c]; omega)
    rw [eop] at h
    show V miX11_lowest (d + 3) 5 [(0, .ref 1), (1, I_ (k : Int))] [.ref (up2 g 1 3 0 3 k).toNat] n (W0 dy) (up2 g 1 3 0) 0 0 P
    refine bX11_lowest_5 hn ⟨fun _ => cs_gather hC0 hI0 c2 fun G l hF => ?_, fun q => absurd (show (g 3 k).toNat = 0 from q) (by omega)⟩
    exact bX11_lowest_20 hn (cs_lowestNumber hC0 hI0 hF (bX11_lowest_27 hn (h _ _ _ rfl (hF.ca hC0) (((Kr.refl g).up (by omega)).trans hF.kr))))
end Lowest
