/-! WRONG: the class -/
def sumL (f : Nat → Int) : List Nat → Int
  | [] => 0
  | y :: l => f y + sumL f l
theorem sumL_in (f : Nat → Int) (n : Nat) : ∀ l : List Nat, l.Nodup → (∀ y, y ∈ l → y < n) → sumL f l = sumN (fun y => if y ∈ l then f y else 0) n
  | [], _, _ => by
    refine Eq.trans (sumN_zero n).symm (sumN_cg n fun y _ => ?_)
    rw [if_neg (by simp)]
  | y :: l, hd, hb => by
    obtain ⟨h1, h2⟩ := List.nodup_cons.mp hd
    have e := sumN_one f y n
    rw [if_pos (hb y (List.mem_cons_self ..))] at e
    show f y + sumL f l = _
    rw [sumL_in f n l h2 (fun z hz => hb z (List.mem_cons_of_mem _ hz)), ← e, ← sumN_add]
    refine sumN_cg n fun z _ => ?_
    by_cases c : z = y
    · rw [if_pos c, if_neg (by rw [c]; exact h1), if_pos (by rw [c]; exact List.mem_cons_self ..)]; omega
    · rw [if_neg c]
      by_cases m : z ∈ l
      · rw [if_pos m, if_pos (List.mem_cons_of_mem _ m)]; omega
      · rw [if_neg m, if_neg (fun q => by rcases List.mem_cons.mp q with q | q <;> contradiction)]; omega
theorem dropc {l r : List Nat} {i y : Nat} (h : l.drop i = y :: r) : l[i]? = some y ∧ l.drop (i + 1) = r ∧ i < l.length := by
  have e : l[i]? = some y := by
    have := List.getElem?_drop (xs := l) (i := i) (j := 0)
    rw [h] at this
    simpa using this.symm
  refine ⟨e, ?_, (List.getElem?_eq_some_iff.mp e).1⟩
  rw [← List.drop_drop, h]; rfl
section Wrong
variable {d n : Nat} {dy : Nat → Shp} {g a : Hp} {P : Pst}
def wr (a : Hp) (y : Nat) : Int := if (a 57 y = 2 ∨ a 57 y = 3) ∧ len a y ≠ 0 then 1 else 0
theorem GF.sum {G : Hp} {k0 : Nat} {l : List Nat} (hF : GF g a G k0 l) (f : Nat → Int) : sumL f l = sumN (fun y => if abv (a 60) k0 60 y = true then f y else 0) (a 53 5).toNat := by
  have hm := hF.2.2.2.2.2.1
  rw [sumL_in f (a 53 5).toNat l hF.2.1.2.2 (fun y hy => by have := ((hm y).mp hy).1; omega)]
  refine sumN_cg _ fun y hy => ?_
  by_cases c : y ∈ l
  · rw [if_pos c, if_pos ((hm y).mp c).2]
  · rw [if_neg c, if_neg (fun z => c ((hm y).mpr ⟨by omega, z⟩))]
theorem cs_notLevel {G : Hp} {k0 : Nat} {l : List Nat} (hC : Ca n dy g a) (hI : Inv a) (hF : GF g a G k0 l) (h : P (some (I_ (sumL (wr a) l))) n (W0 dy) G) : Runs miX1_notLevel (d + 2) [.ref 4] n (W0 dy) G P := by
  have hn := hC.1
  have e41 := hF.2.1.1
  have l60 := hF.2.1.2.1
  have key : ∀ (r : List Nat) (i : Nat) (x1 : Int), i ≤ l.length → l.drop i = r → x1 + sumL (wr a) r = sumL (wr a) l → V miX1_notLevel (d + 2) 4 [(0, .ref 4), (1, I_ x1), (2, I_ (i : Int))] [] n (W0 dy) G 0 0 P := by
    intro r
    induction r with
    | nil =>
      intro i x1 hi hr hx
      have hl := List.drop_eq_nil_iff.mp hr
      have hx : x1 + 0 = sumL (wr a) l := hx
      refine bX1_notLevel_4 hn ⟨⟨by omega, by omega⟩, fun _ => ?_, fun q => by omega⟩
      rw [show x1 = sumL (wr a) l by omega]; exact h
    | cons y r ih =>
      intro i x1 hi hr hx
      obtain ⟨e, er, il⟩ := dropc hr
      have hx : x1 + (wr a y + sumL (wr a) r) = sumL (wr a) l := hx
      have hy := List.mem_of_getElem? e
      have hyN := ((hF.2.2.2.2.2.1 y).mp hy).1
      have hK := (hI.2.2.1 y hyN).2
      have hp := hC.2.2.2.1 y hyN
      have ek := hp.isk hK
      refine bX1_notLevel_4 hn ⟨⟨by omega, by omega⟩, fun q => by omega, fun _ => ⟨⟨by omega, by omega⟩, ?_⟩⟩
      rw [show G 5 ((i : Nat) : Int).toNat = g 3 y from hF.2.2.1 i y e, show ((i : Nat) : Int) + 1 = ((i + 1 : Nat) : Int) by omega]
      refine ⟨Or.inr (hp.pt hK), fun q => ?_, fun q => ?_⟩
      · have c : ¬ (a 57 y = 2 ∨ a 57 y = 3) := fun c => by rw [if_pos c] at ek; omega
        unfold wr at hx
        rw [if_neg (fun z => c z.1)] at hx
        exact ih _ _ (by omega) er (by unfold wr; omega)
      · have c : a 57 y = 2 ∨ a 57 y = 3 := Decidable.byContradiction fun c => by rw [if_neg c] at ek; exact q ek
        refine ⟨hp.ob c, cs_lean hC hI hF hy c (bX1_notLevel_38 hn ⟨len_b hI hyN c, fun z => ?_, fun z => ?_⟩)⟩
        · have w : wr a y = 0 := if_neg (fun q => q.2 z)
          rw [show ((i : Nat) : Int) + 1 = ((i + 1 : Nat) : Int) by omega]
          exact ih _ _ (by omega) er (by omega)
        · have w : wr a y = 1 := if_pos ⟨c, z⟩
          rw [show ((i : Nat) : Int) + 1 = ((i + 1 : Nat) : Int) by omega]
          exact ih _ _ (by omega) er (by omega)
  exact wX1_notLevel hn (key l 0 0 (by omega) rfl (by omega))
def opWrong (a : Hp) (x1 : Int) : Int × Hp := if 0 < topI a x1 then (-1, up2 a 53 0 (topI a x1)) else (sumN (fun y => if abv (a 60) x1.toNat 60 y = true then wr a y else 0) (a 53 5).toNat, a)
theorem topI_0 {x1 : Int} (c : topI a x1 = 0) : 0 ≤ x1 ∧ x1 < a 53 5 ∧ a 60 x1.toNat < 0 := by
  unfold topI at c
  split at c
  · omega
  · split at c
    · omega
    · exact ⟨by omega, by omega, by omega⟩
theorem cs_wrong {x1 : Int} (hC : Ca n dy g a) (hI : Inv a) (h1 : i3 x1) (h : ∀ v a' g', opWrong (up2 a 53 0 0) x1 = (v, a') → Ca n dy g' a' → Kr g g' → P (some (I_ v)) n (W0 dy) g') : Runs miX11_wrong (d + 3) [.ref 1, I_ x1] n (W0 dy) g P := by
  have hn := hC.1
  refine wX11_wrong hn (cs_topGiven hC hI h1 ⟨fun c => ?_, fun c => ?_⟩)
  · refine bX11_wrong_5 hn ⟨fun q => absurd q (Nat.lt_irrefl 0), fun _ => h _ _ _ ?_ (hC.st2 0 _) ((Kr.refl g).up (by omega))⟩
    unfold opWrong; exact if_pos c
  · obtain ⟨c1, c2, c3⟩ := topI_0 c
    obtain ⟨k, rfl⟩ := exN c1
    have hC0 := hC.st 0
    have hI0 : Inv (up2 a 53 0 0) := hI
    have hb := hC.cell (k := k) c2
    have eop : opWrong (up2 a 53 0 0) (k : Int) = (sumN (fun y => if abv (up2 a 53 0 0 60) k 60 y = true then wr (up2 a 53 0 0) y else 0) (up2 a 53 0 0 53 5).toNat, up2 a 53 0 0) := by
      unfold opWrong; exact if_neg (by rw [show topI (up2 a 53 0 0) (k : Int) = topI a (k : Int) from rfl, c]; omega)
    rw [eop] at h
    show V miX11_wrong (d + 3) 5 [(0, .ref 1), (1, I_ (k : Int))] [.ref (up2 g 1 3 0 3 k).toNat] n (W0 dy) (up2 g 1 3 0) 0 0 P
    refine bX11_wrong_5 hn ⟨fun _ => cs_gather hC0 hI0 c2 fun G l hF => ?_, fun q => absurd (show (g 3 k).toNat = 0 from q) (by omega)⟩
    refine bX11_wrong_20 hn (cs_notLevel hC0 hI0 hF (bX11_wrong_27 hn (h _ _ _ ?_ (hF.ca hC0) (((Kr.refl g).up (by omega)).trans hF.kr))))
    rw [hF.sum]
end Wrong
