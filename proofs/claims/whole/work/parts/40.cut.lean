/-! CUT -/
theorem rs_suspect {d n : Nat} {dy : Nat → Shp} {g : Hp} {P : Pst} {x1 : Int} (hn : 100 ≤ n) (hK : g 53 26 ≤ 14) (h1 : i3 x1) (h : P (some (I_ (if x1 < 0 ∨ g 53 26 ≤ x1 then -1 else g 77 x1.toNat))) n (W0 dy) (up2 g 53 1 0)) : Runs miX12_suspect d [.ref 53, I_ x1] n (W0 dy) g P := by
  have h' : ∀ v, (if x1 < 0 ∨ g 53 26 ≤ x1 then -1 else g 77 x1.toNat) = v → P (some (I_ v)) n (W0 dy) (up2 g 53 1 0) := fun v e => by rw [← e]; exact h
  refine wX12_suspect hn ?_
  refine ⟨by first | omega | assumption, ?_⟩
  refine ⟨?_, ?_⟩
  · intro q1
    first | omega | (refine h' _ ?_; (repeat' split) <;> first | rfl | (exfalso; omega))
  · intro q2
    refine ⟨?_, ?_⟩
    · intro q3
      refine ⟨by first | omega | assumption, ?_⟩
      first | omega | (refine h' _ ?_; (repeat' split) <;> first | rfl | (exfalso; omega))
    · intro q4
      first | omega | (refine h' _ ?_; (repeat' split) <;> first | rfl | (exfalso; omega))
section Cut
variable {d n : Nat} {dy : Nat → Shp} {g a : Hp} {P : Pst}
theorem cutF_keep (i : Nat) : ∀ r q, r ≠ 60 → r ≠ 61 → r ≠ 62 → r ≠ 66 → r ≠ 67 → (cutF g i).2 r q = g r q := by
  induction i with
  | zero => intro r q _ _ _ _ _; rfl
  | succ i ih =>
    intro r q h1 h2 h3 h4 h5
    show (if (cutF g i).2 60 (g 77 i).toNat < 0 then cutF g i else ((cutF g i).1 + 1, off (cutF g i).2 (g 77 i).toNat)).2 r q = _
    split
    · exact ih r q h1 h2 h3 h4 h5
    · show off (cutF g i).2 (g 77 i).toNat r q = g r q
      rw [(@off_rows (cutF g i).2 (g 77 i).toNat).2.2.2.2.2 r q h1 h2 h3 h4 h5]
      exact ih r q h1 h2 h3 h4 h5
theorem cutF_inv (hI : Inv a) : ∀ i : Nat, (i : Int) ≤ a 53 26 → Inv (cutF a i).2 ∧ (0 ≤ (cutF a i).1 ∧ (cutF a i).1 ≤ i)
  | 0, _ => ⟨hI, Int.le_refl _, Int.le_refl _⟩
  | i + 1, h => by
    obtain ⟨h1, h2, h3⟩ := cutF_inv hI i (by omega)
    show Inv (if (cutF a i).2 60 (a 77 i).toNat < 0 then cutF a i else ((cutF a i).1 + 1, off (cutF a i).2 (a 77 i).toNat)).2 ∧ (0 ≤ (if (cutF a i).2 60 (a 77 i).toNat < 0 then cutF a i else ((cutF a i).1 + 1, off (cutF a i).2 (a 77 i).toNat)).1 ∧ (if (cutF a i).2 60 (a 77 i).toNat < 0 then cutF a i else ((cutF a i).1 + 1, off (cutF a i).2 (a 77 i).toNat)).1 ≤ _)
    have hk := hI.2.2.2.2.1.2 i (by omega)
    by_cases c : (cutF a i).2 60 (a 77 i).toNat < 0
    · rw [if_pos c]; exact ⟨h1, h2, by omega⟩
    · rw [if_neg c]
      refine ⟨h1.off ?_ (by omega), by show 0 ≤ (cutF a i).1 + 1; omega, by show (cutF a i).1 + 1 ≤ _; omega⟩
      rw [cutF_keep i 53 5 (by omega) (by omega) (by omega) (by omega) (by omega)]
      omega
theorem off_st (a : Hp) (k : Nat) (w : Int) : off (up2 a 53 0 w) k = up2 (off a k) 53 0 w := by
  have e60 : up2 a 53 0 w 60 k = a 60 k := rfl
  have e61 : up2 a 53 0 w 61 k = a 61 k := rfl
  funext i q
  unfold off
  rw [e60, e61]
  by_cases c : a 61 k = 0
  · simp only [if_pos c, up2_ap]
    repeat' split
    all_goals first | rfl | omega
  · simp only [if_neg c, up2_ap]
    repeat' split
    all_goals first | rfl | omega
theorem cutF_st (a : Hp) (w : Int) : ∀ i : Nat, cutF (up2 a 53 0 w) i = ((cutF a i).1, up2 (cutF a i).2 53 0 w)
  | 0 => rfl
  | i + 1 => by
    show (if (cutF (up2 a 53 0 w) i).2 60 (a 77 i).toNat < 0 then cutF (up2 a 53 0 w) i else ((cutF (up2 a 53 0 w) i).1 + 1, off (cutF (up2 a 53 0 w) i).2 (a 77 i).toNat)) = ((if (cutF a i).2 60 (a 77 i).toNat < 0 then cutF a i else ((cutF a i).1 + 1, off (cutF a i).2 (a 77 i).toNat)).1, up2 (if (cutF a i).2 60 (a 77 i).toNat < 0 then cutF a i else ((cutF a i).1 + 1, off (cutF a i).2 (a 77 i).toNat)).2 53 0 w)
    rw [cutF_st a w i]
    have e : (((cutF a i).1, up2 (cutF a i).2 53 0 w) : Int × Hp).2 60 (a 77 i).toNat = (cutF a i).2 60 (a 77 i).toNat := rfl
    rw [e]
    by_cases c : (cutF a i).2 60 (a 77 i).toNat < 0
    · rw [if_pos c, if_pos c]
    · rw [if_neg c, if_neg c]
      show ((cutF a i).1 + 1, off (up2 (cutF a i).2 53 0 w) (a 77 i).toNat) = _
      rw [off_st]
def opCut (g : Hp) : Int × Hp := cutF g (g 53 26).toNat
theorem rs_cut (hn : 100 ≤ n) (hI : Inv (up2 (up2 g 53 1 0) 53 0 0)) (h : ∀ v g', opCut (up2 (up2 g 53 1 0) 53 0 0) = (v, g') → P (some (I_ v)) n (W0 dy) g') : Runs miX12_cut_ (d + 1) [.ref 53] n (W0 dy) g P := by
  refine wX12_cut_ hn ?_
  generalize up2 (up2 g 53 1 0) 53 0 0 = g1 at h hI ⊢
  obtain ⟨K, eK⟩ := exN hI.2.2.2.2.1.1.1
  have hK := hI.2.2.2.2.1.1.2
  have eT : (g1 53 26).toNat = K := by omega
  have hP : P (some (I_ (cutF g1 K).1)) n (W0 dy) (cutF g1 K).2 := h _ _ (by unfold opCut; rw [eT])
  have key : ∀ (f i : Nat), i + f = K → V miX12_cut_ (d + 1) 14 [(0, .ref 53), (1, I_ (cutF g1 i).1), (2, I_ (i : Int))] [] n (W0 dy) (cutF g1 i).2 0 0 P := by
    intro f
    induction f with
    | zero =>
      intro i hi
      have e26 := cutF_keep (g := g1) i 53 26 (by omega) (by omega) (by omega) (by omega) (by omega)
      refine bX12_cut__14 hn ⟨⟨by omega, by omega⟩, fun _ => ?_, fun q => by omega⟩
      rw [show i = K by omega]; exact hP
    | succ f ih =>
      intro i hi
      have e26 := cutF_keep (g := g1) i 53 26 (by omega) (by omega) (by omega) (by omega) (by omega)
      have e77 := cutF_keep (g := g1) i 77 i (by omega) (by omega) (by omega) (by omega) (by omega)
      have hk := hI.2.2.2.2.1.2 i (by omega)
      have hN := hI.1.2
      obtain ⟨hIi, hb⟩ := cutF_inv hI i (by omega)
      have e5 := cutF_keep (g := g1) i 53 5 (by omega) (by omega) (by omega) (by omega) (by omega)
      have hon := (hIi.2.2.1 (g1 77 i).toNat (by omega)).1.1
      have step : cutF g1 (i + 1) = if (cutF g1 i).2 60 (g1 77 i).toNat < 0 then cutF g1 i else ((cutF g1 i).1 + 1, off (cutF g1 i).2 (g1 77 i).toNat) := rfl
      have nx := ih (i + 1) (by omega)
      rw [step] at nx
      refine bX12_cut__14 hn ⟨⟨by omega, by omega⟩, fun q => by omega, fun _ => ⟨⟨by omega, by omega⟩, ?_⟩⟩
      show (0 ≤ (cutF g1 i).2 77 i ∧ (cutF g1 i).2 77 i < 60) ∧ _
      rw [show (cutF g1 i).2 77 ((i : Nat) : Int).toNat = g1 77 i from e77, e77]
      refine ⟨by omega, fun c => ?_, fun c => ?_⟩
      · rw [if_neg (by omega)] at nx
        exact spX12_takeOff hn (by omega) (by omega) (bX12_cut__49 hn nx)
      · rw [if_pos c] at nx
        exact nx
  exact key K 0 (by omega)
theorem cs_cut (hC : Ca n dy g a) (hI : Inv a) (h : ∀ v a' g', opCut (up2 a 53 0 0) = (v, a') → Ca n dy g' a' → Kr g g' → P (some (I_ v)) n (W0 dy) g') : Runs miX11_cut (d + 2) [.ref 1] n (W0 dy) g P := by
  have hn := hC.1
  obtain ⟨K, eK⟩ := exN hI.2.2.2.2.1.1.1
  have hK := hI.2.2.2.2.1.1.2
  have eT : (a 53 26).toNat = K := by omega
  have eop : opCut (up2 a 53 0 0) = ((cutF a K).1, up2 (cutF a K).2 53 0 0) := by
    unfold opCut
    rw [show ((up2 a 53 0 0) 53 26).toNat = K from eT]
    exact cutF_st a 0 K
  have key : ∀ (f i : Nat) (gi : Hp), i + f = K → Ca n dy gi (cutF a i).2 → Kr g gi → V miX11_cut (d + 2) 4 [(0, .ref 1), (1, I_ (cutF a i).1), (2, I_ (i : Int))] [] n (W0 dy) gi 0 0 P := by
    intro f
    induction f with
    | zero =>
      intro i gi hi hc hk
      have e26 := cutF_keep (g := a) i 53 26 (by omega) (by omega) (by omega) (by omega) (by omega)
      have e11 := hc.2.2.2.2.1.1
      have ei : i = K := by omega
      subst ei
      exact bX11_cut_4 hn ⟨⟨by omega, by omega⟩, fun _ => h _ _ _ eop (hc.st 0) (hk.up (by omega)), fun q => by omega⟩
    | succ f ih =>
      intro i gi hi hc hk
      have e26 := cutF_keep (g := a) i 53 26 (by omega) (by omega) (by omega) (by omega) (by omega)
      have e77 := cutF_keep (g := a) i 77 i (by omega) (by omega) (by omega) (by omega) (by omega)
      have e5 := cutF_keep (g := a) i 53 5 (by omega) (by omega) (by omega) (by omega) (by omega)
      have hkk := hI.2.2.2.2.1.2 i (by omega)
      have hN60 := hI.1.2
      obtain ⟨hIi, hb⟩ := cutF_inv hI i (by omega)
      have e11 := hc.2.2.2.2.1.1
      have step : cutF a (i + 1) = if (cutF a i).2 60 (a 77 i).toNat < 0 then cutF a i else ((cutF a i).1 + 1, off (cutF a i).2 (a 77 i).toNat) := rfl
      have ih1 := ih (i + 1)
      rw [step] at ih1
      refine bX11_cut_4 hn ⟨⟨by omega, by omega⟩, fun q => by omega, fun _ => cs_suspect hc hIi ⟨by omega, by omega⟩ ?_⟩
      rw [if_neg (by omega), show (cutF a i).2 77 ((i : Nat) : Int).toNat = a 77 i from e77]
      obtain ⟨x, ex⟩ := exN hkk.1
      rw [ex] at ih1 ⊢
      have hx : (x : Int) < (cutF a i).2 53 5 := by omega
      have bx := hc.cell hx
      have px := (hc.2.2.2.1 _ hx).pt (hIi.2.2.1 _ hx).2
      obtain ⟨u1, u2⟩ := above_b hc hIi hx
      refine bX11_cut_18 hn (cs_partAt hc hIi ⟨by omega, by omega⟩ ⟨fun c => by omega, fun _ _ => ?_⟩)
      show V miX11_cut (d + 2) 21 [(0, .ref 1), (1, I_ (cutF a i).1), (2, I_ (i : Int))] [.ref (gi 3 x).toNat] n (W0 dy) gi 0 0 P
      have ih1 : ∀ gi, i + 1 + f = K → Ca n dy gi (if (cutF a i).2 60 x < 0 then cutF a i else ((cutF a i).1 + 1, off (cutF a i).2 x)).2 → Kr g gi → V miX11_cut (d + 2) 4 [(0, .ref 1), (1, I_ (if (cutF a i).2 60 x < 0 then cutF a i else ((cutF a i).1 + 1, off (cutF a i).2 x)).1), (2, I_ ((i + 1 : Nat) : Int))] [] n (W0 dy) gi 0 0 P := ih1
      refine bX11_cut_21 hn ⟨fun q => by omega, fun _ => ⟨px, fun q => ?_, fun q => ?_⟩⟩
      · have c : (cutF a i).2 60 x < 0 := by
          by_cases c : (cutF a i).2 60 x < 0
          · exact c
          · have := u2 (by omega); omega
        rw [if_pos c] at ih1
        exact ih1 gi (by omega) hc hk
      · have c : 0 ≤ (cutF a i).2 60 x := by
          by_cases c : (cutF a i).2 60 x < 0
          · have := u1 c; omega
          · omega
        rw [if_neg (show ¬ (cutF a i).2 60 x < 0 by omega)] at ih1
        obtain ⟨v1, v2, v3, v4, v5⟩ := u2 c
        refine cs_comeOff hc hIi hx c fun g' hg' => bX11_cut_37 hn (ih1 g' (by omega) (Ca.off hc hIi hx c ⟨?_, ?_, ?_⟩ (fun j q _ => hg' j q)) (fun j q hj => ?_))
        · rw [hg' 1 2]; simp only [up2_ap]; rw [if_neg (by omega), if_neg (by omega), if_neg (by omega), if_neg (by omega)]
        · rw [hg' 1 3]; simp only [up2_ap]; rw [if_neg (by omega), if_neg (by omega), if_neg (by omega), if_neg (by omega)]; exact hc.2.1.2
        · rw [hg' 1 11]; simp only [up2_ap]; rw [if_neg (by omega), if_neg (by omega), if_neg (by omega), if_neg (by omega)]
        · rw [hg' j q]; simp only [up2_ap]; rw [if_neg (by omega), if_neg (by omega), if_neg (by omega), if_neg (by omega)]; exact hk j q hj
  exact wX11_cut hn (key K 0 g (by omega) hC (Kr.refl g))
theorem cutF_cg {g1 : Hp} (h : rz g1 = rz g) : ∀ i : Nat, (cutF g1 i).1 = (cutF g i).1 ∧ rz (cutF g1 i).2 = rz (cutF g i).2
  | 0 => ⟨rfl, h⟩
  | i + 1 => by
    obtain ⟨h1, h2⟩ := cutF_cg h i
    have e77 := rz_of h (i := 77) (q := i) rfl
    have e60 := rz_row (i := 60) h2 (fun _ => rfl)
    show (if (cutF g1 i).2 60 (g1 77 i).toNat < 0 then cutF g1 i else ((cutF g1 i).1 + 1, off (cutF g1 i).2 (g1 77 i).toNat)).1 = (if (cutF g i).2 60 (g 77 i).toNat < 0 then cutF g i else ((cutF g i).1 + 1, off (cutF g i).2 (g 77 i).toNat)).1 ∧ rz (if (cutF g1 i).2 60 (g1 77 i).toNat < 0 then cutF g1 i else ((cutF g1 i).1 + 1, off (cutF g1 i).2 (g1 77 i).toNat)).2 = rz (if (cutF g i).2 60 (g 77 i).toNat < 0 then cutF g i else ((cutF g i).1 + 1, off (cutF g i).2 (g 77 i).toNat)).2
    rw [e77, e60]
    split
    · exact ⟨h1, h2⟩
    · exact ⟨by show _ + 1 = _ + 1; rw [h1], off_cg h2 _⟩
theorem opCut_cg {g1 : Hp} (h : rz g1 = rz g) : (opCut g1).1 = (opCut g).1 ∧ rz (opCut g1).2 = rz (opCut g).2 := by
  have := rz_of h (i := 53) (q := 26) rfl
  unfold opCut
  rw [this]
  exact cutF_cg h _
theorem opCut_kc (g : Hp) : Kc g (opCut g).2 := fun i q hi => cutF_keep _ i q (by omega) (by omega) (by omega) (by omega) (by omega)
theorem inv_cut (hI : Inv a) : Inv (opCut a).2 := by
  have hK := hI.2.2.2.2.1.1
  exact (cutF_inv hI (a 53 26).toNat (by omega)).1
end Cut
