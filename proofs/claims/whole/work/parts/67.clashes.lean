/-! CLASHES: the class -/
def mix (g G : Hp) : Hp := fun i q => if i = 9 ∨ i = 10 then G i q else g i q
/-- G is G0 but for the two spans -/
def S9 (G0 G : Hp) : Prop := ∀ i q, i ≠ 9 → i ≠ 10 → G i q = G0 i q
def cmI (a : Hp) (ap : Int) (x y : Nat) : Int := if (a 57 x = 1 ∧ a 57 y = 1) ∧ ab (hh a x - hh a y) ≤ ap ∧ tc a x y = 1 then 1 else 0
section Clashes
variable {d n : Nat} {dy : Nat → Shp} {g a G G0 : Hp} {P : Pst} {l : List Nat}
theorem GF.mv {k0 : Nat} (hC : Ca n dy g a) (hF : GF g a G0 k0 l) (h : S9 G0 G) : GF (mix g G) a G k0 l ∧ Ca n dy (mix g G) a ∧ mix g G 3 = g 3 := by
  obtain ⟨f1, ⟨f2, f2', f2''⟩, f3, f4, f5, f6, f7⟩ := hF
  have e3 : mix g G 3 = g 3 := funext fun q => if_neg (by decide)
  refine ⟨⟨fun i q h1 h2 h3 => ?_, ⟨(h 4 1 (by decide) (by decide)).trans f2, f2', f2''⟩, fun m j e => ?_, fun j hj => ?_, f5, f6, fun j hj => ?_⟩, hC.keep fun i q hi => if_neg ?_, e3⟩
  · by_cases c : i = 9 ∨ i = 10
    · exact (if_pos c).symm
    · exact (h i q (fun z => c (Or.inl z)) (fun z => c (Or.inr z))).trans ((f1 i q h1 h2 h3).trans (if_neg c).symm)
  · rw [h 5 m (by decide) (by decide), f3 m j e, e3]
  · rw [h 4 2 (by decide) (by decide)]; exact f4 j hj
  · have b := hC.cell ((f6 j).mp hj).1
    rw [e3, h _ 7 (by omega) (by omega), h _ 6 (by omega) (by omega), h _ 8 (by omega) (by omega), h _ 9 (by omega) (by omega)]
    exact f7 j hj
  · unfold cl at hi; omega
theorem cs_canMeet_71 {x y r : Nat} {ap : Int} {G2 : Hp} {A B : Int × Int × Int} (hC2 : Ca n dy G2 a) (hI : Inv a) (hr : (r : Int) < a 53 5) (rod : a 57 r = 2 ∨ a 57 r = 3) (w9 : G2 9 2 = A.1 ∧ G2 9 0 = A.2.1 ∧ G2 9 1 = A.2.2) (w10 : G2 10 2 = B.1 ∧ G2 10 0 = B.2.1 ∧ G2 10 1 = B.2.2) (bA : (0 ≤ A.2.1 ∧ A.2.1 ≤ 60000) ∧ (0 ≤ A.2.2 ∧ A.2.2 ≤ 1000)) (bB : (0 ≤ B.2.1 ∧ B.2.1 ≤ 60000) ∧ (0 ≤ B.2.2 ∧ B.2.2 ≤ 1000)) (h : P (some (I_ (if tch (a 59 r) A B then 1 else 0))) n (W0 dy) G2) : V miX11_canMeet (d + 3) 71 [(0, .ref 1), (1, .ref x), (2, .ref y), (3, I_ ap), (4, .ref (G2 3 r).toNat)] [] n (W0 dy) G2 0 0 P := by
  have hn := hC2.1
  refine bX11_canMeet_71 hn (cs_canTouch hC2 hI hr rod ⟨w9.2.1, w9.2.2⟩ ⟨w10.2.1, w10.2.2⟩ bA bB (fun w => ?_) (fun w => ?_))
  · rw [if_neg w] at h
    exact bX11_canMeet_77 hn ⟨Or.inl rfl, h⟩
  · rw [if_pos w] at h
    exact bX11_canMeet_77 hn ⟨Or.inr rfl, h⟩
theorem cs_canMeet {k0 x y : Nat} {ap : Int} (hC : Ca n dy g a) (hI : Inv a) (hF : GF g a G0 k0 l) (hG : S9 G0 G) (h0 : a 60 k0 < 0) (hxl : x ∈ l) (hyl : y ∈ l) (xy : x ≠ y) (hap : i3 ap) (h : ∀ G', S9 G0 G' → P (some (I_ (cmI a ap x y))) n (W0 dy) G') : Runs miX11_canMeet (d + 3) [.ref 1, .ref (g 3 x).toNat, .ref (g 3 y).toNat, I_ ap] n (W0 dy) G P := by
  have hn := hC.1
  have hm := hF.2.2.2.2.2.1
  obtain ⟨hx, ax⟩ := (hm x).mp hxl
  obtain ⟨hy, ay⟩ := (hm y).mp hyl
  have bx := hC.cell hx
  have by' := hC.cell hy
  have ptx : Pt n (W0 dy) (g 3 x).toNat := (hC.2.2.2.1 x hx).pt (hI.2.2.1 x hx).2
  have pty : Pt n (W0 dy) (g 3 y).toNat := (hC.2.2.2.1 y hy).pt (hI.2.2.1 y hy).2
  have k1 : G (g 3 x).toNat 1 = a 57 x := by
    rw [hG _ _ (by omega) (by omega), hF.1 _ _ (by omega) (by omega) (by omega)]; exact (hC.2.2.2.1 x hx).2.1.2.1
  have k2 : G (g 3 y).toNat 1 = a 57 y := by
    rw [hG _ _ (by omega) (by omega), hF.1 _ _ (by omega) (by omega) (by omega)]; exact (hC.2.2.2.1 y hy).2.1.2.1
  have h7x : G (g 3 x).toNat 7 = rh a k0 x := by
    rw [hG _ _ (by omega) (by omega)]; exact (hF.2.2.2.2.2.2 x hxl).1
  have h7y : G (g 3 y).toNat 7 = rh a k0 y := by
    rw [hG _ _ (by omega) (by omega)]; exact (hF.2.2.2.2.2.2 y hyl).1
  have e7 : rh a k0 x - rh a k0 y = hh a x - hh a y := by unfold rh hh; omega
  have hbx := hh_b hI hx
  have hby := hh_b hI hy
  have eab : ab (hh a x - hh a y) = (((hh a x - hh a y).natAbs : Nat) : Int) := ab_nat _
  have no : ¬ ((a 57 x = 1 ∧ a 57 y = 1) ∧ ab (hh a x - hh a y) ≤ ap ∧ tc a x y = 1) → P (some (I_ 0)) n (W0 dy) G := fun c => by
    have := h G hG
    unfold cmI at this
    rw [if_neg c] at this; exact this
  refine wX11_canMeet hn ⟨fun q => by omega, fun _ => ⟨fun q => by omega, fun _ => ⟨ptx, ?_⟩⟩⟩
  rw [k1, k2, h7x, h7y, e7]
  refine ⟨fun z => no fun w => z w.1.1, fun c1 => ⟨pty, fun c2 => ⟨⟨by omega, by omega⟩, ⟨by rw [eab]; omega, by rw [eab]; omega⟩, hap, fun c3 => ?_, fun z => no fun w => absurd w.2.1 (Int.not_le.mpr z)⟩, fun z => no fun w => z w.1.2⟩⟩
  have two := Wt.two hI h0 hx hy xy ⟨ax, c1⟩ ⟨ay, c2⟩
  have cm : cmI a ap x y = tc a x y := by
    unfold cmI
    have tb := tc_b (a := a) x y
    by_cases t : tc a x y = 1
    · rw [if_pos ⟨⟨c1, c2⟩, c3, t⟩, t]
    · rw [if_neg fun w => t w.2.2]; omega
  rw [cm] at h
  clear no cm e7 h7x h7y k1 k2 eab hbx hby
  obtain ⟨hFm, hCm, e3m⟩ := hF.mv hC hG
  obtain ⟨r, r1, r2, r3, r4, r5, r6, r7⟩ := two.la hI
  have eA : mAB a x y = msr a (r : Int) 60 x (1, 0, 0) := by unfold mAB; rw [r1]
  have eB : mBA a x y = msr a (r : Int) 60 y (1, 0, 0) := by unfold mBA; rw [r1]
  have bA := msr_b0 hI (s := (r : Int)) hx
  have bB := msr_b0 hI (s := (r : Int)) hy
  have e59 : tc a x y = if tch (a 59 r) (mAB a x y) (mBA a x y) then 1 else 0 := by unfold tc; rw [r1]; rfl
  rw [← e3m]
  refine cs_lastAboveBoth hCm hI hFm h0 hxl hyl (bX11_canMeet_49 hn ?_)
  rw [r1]
  have er : (rfx (g 3) (r : Int)).toNat = (g 3 r).toNat := by unfold rfx; rw [if_neg (by omega)]; rfl
  have hr1 : -1 ≤ (r : Int) ∧ (r : Int) < a 53 5 := ⟨by omega, r2⟩
  have hCG := hFm.ca hCm
  have e3 : G 3 = mix g G 3 := funext fun q => hFm.g3 q
  clear r1 r3 r4 r5 r6 two hm
  rw [← e3]
  refine cs_measure hCG hI (Or.inl rfl) hx hr1 fun G1 q1 m1 => bX11_canMeet_61 hn ?_
  have hC1 : Ca n dy G1 a := hCG.keep fun i q hi => q1 i q (cl_ne (Or.inl rfl) hi)
  have e31 : G1 3 = G 3 := funext fun q => q1 3 q (by decide)
  rw [← e31]
  refine cs_measure hC1 hI (Or.inr rfl) hy hr1 fun G2 q2 m2 => ?_
  have hC2 : Ca n dy G2 a := hC1.keep fun i q hi => q2 i q (cl_ne (Or.inr rfl) hi)
  have e32 : G2 3 = g 3 := (funext fun q => q2 3 q (by decide)).trans (e31.trans (e3.trans e3m))
  rw [e31, e3, e3m, er, ← e32]
  rw [← eA] at m1 bA
  rw [← eB] at m2 bB
  have w9 : G2 9 2 = (mAB a x y).1 ∧ G2 9 0 = (mAB a x y).2.1 ∧ G2 9 1 = (mAB a x y).2.2 := by
    rw [q2 9 2 (by decide), q2 9 0 (by decide), q2 9 1 (by decide)]; exact m1
  refine cs_canMeet_71 hC2 hI r2 r7 w9 m2 bA.2 bB.2 ?_
  rw [← e59]
  exact h G2 fun i q i1 i2 => (q2 i q i2).trans ((q1 i q i1).trans (hG i q i1 i2))
theorem cs_hasWholeArms {k0 : Nat} (hC : Ca n dy g a) (hI : Inv a) (hF : GF g a G k0 l) (h0 : ¬ cWh a k0 → P (some (I_ 0)) n (W0 dy) G) (h1 : cWh a k0 → P (some (I_ 1)) n (W0 dy) G) : Runs miX1_hasWholeArms (d + 1) [.ref 4] n (W0 dy) G P := by
  have hn := hC.1
  have e41 := hF.2.1.1
  have l60 := hF.2.1.2.1
  have hCG := hF.ca hC
  have e3 : G 3 = g 3 := funext fun q => hF.g3 q
  have hm := hF.2.2.2.2.2.1
  have key : ∀ (r : List Nat) (i : Nat), i ≤ l.length → l.drop i = r → (∀ y, y ∈ l.take i → (a 57 y = 2 ∨ a 57 y = 3) → whI a y ≠ 0) → V miX1_hasWholeArms (d + 1) 2 [(0, .ref 4), (1, I_ (i : Int))] [] n (W0 dy) G 0 0 P := by
    intro r
    induction r with
    | nil =>
      intro i hi hr hx
      have hl := List.drop_eq_nil_iff.mp hr
      refine bX1_hasWholeArms_2 hn ⟨⟨by omega, by omega⟩, fun _ => h1 fun y hy ab rod => hx y ?_ rod, fun q => by omega⟩
      rw [List.take_of_length_le hl]
      exact (hm y).mpr ⟨by omega, ab⟩
    | cons y r ih =>
      intro i hi hr hx
      obtain ⟨e, er, il⟩ := dropc hr
      have hy := List.mem_of_getElem? e
      obtain ⟨hyN, hya⟩ := (hm y).mp hy
      have hK := (hI.2.2.1 y hyN).2
      have hp := hC.2.2.2.1 y hyN
      have ek := hp.isk hK
      have nx : ((a 57 y = 2 ∨ a 57 y = 3) → whI a y ≠ 0) → V miX1_hasWholeArms (d + 1) 2 [(0, .ref 4), (1, I_ ((i : Int) + 1))] [] n (W0 dy) G 0 0 P := fun hc => by
        rw [show ((i : Nat) : Int) + 1 = ((i + 1 : Nat) : Int) by omega]
        refine ih (i + 1) (by omega) er fun z hz rod => ?_
        rcases (mem_tk e).mp hz with q | q
        · exact hx z q rod
        · rw [q] at rod ⊢; exact hc rod
      refine bX1_hasWholeArms_2 hn ⟨⟨by omega, by omega⟩, fun q => by omega, fun _ => ⟨⟨by omega, by omega⟩, ?_⟩⟩
      rw [show G 5 ((i : Nat) : Int).toNat = g 3 y from hF.2.2.1 i y e]
      refine ⟨Or.inr (hp.pt hK), fun q => nx fun c => ?_, fun q => ?_⟩
      · rw [if_pos c] at ek; omega
      · have c : a 57 y = 2 ∨ a 57 y = 3 := Decidable.byContradiction fun c => by rw [if_neg c] at ek; exact q ek
        have wb := whI_b (a := a) y
        rw [← e3]
        refine ⟨(hCG.2.2.2.1 y hyN).ob c, cs_whole hCG hI hyN c (bX1_hasWholeArms_33 hn ⟨⟨by omega, by omega⟩, fun z => nx fun _ => z, fun z => h0 fun w => w y (by omega) hya c z⟩)⟩
  exact wX1_hasWholeArms hn (key l 0 (by omega) rfl (fun y hy => by simp at hy))
theorem cs_wholeTop {x1 : Int} (hC : Ca n dy g a) (hI : Inv a) (h1 : i3 x1) (hb : ∀ G, Ca n dy G a → Kr g G → 0 < whT a x1 → P (some (I_ (whT a x1))) n (W0 dy) G) (hg : ∀ (k : Nat) (G : Hp) (l : List Nat), x1 = (k : Int) → (k : Int) < a 53 5 → a 60 k < 0 → cWh a k → whT a x1 = 0 → GF g a G k l → P (some (I_ 0)) n (W0 dy) G) : Runs miX11_wholeTopStatus (d + 3) [.ref 1, I_ x1] n (W0 dy) g P := by
  have hn := hC.1
  refine wX11_wholeTopStatus hn (cs_partAt hC hI h1 ⟨fun c => ?_, fun c1 c2 => ?_⟩)
  · have t : topI a x1 = 2 := if_pos c
    have w : whT a x1 = 2 := by unfold whT; rw [t]; rfl
    have := hb g hC (Kr.refl g) (by rw [w]; decide)
    rw [w] at this
    exact bX11_wholeTopStatus_5 hn ⟨fun q => absurd q (Nat.lt_irrefl 0), fun _ => this⟩
  · obtain ⟨k, rfl⟩ := exN c1
    have hk : (k : Int) < a 53 5 := c2
    have bk := hC.cell hk
    obtain ⟨u1, u2⟩ := above_b hC hI hk
    show V miX11_wholeTopStatus (d + 3) 5 [(0, .ref 1), (1, I_ (k : Int))] [.ref (g 3 k).toNat] n (W0 dy) g 0 0 P
    refine bX11_wholeTopStatus_5 hn ⟨fun _ => ⟨(hC.2.2.2.1 k hk).pt (hI.2.2.1 k hk).2, fun q => ?_, fun q => ?_⟩, fun q => by omega⟩
    · have z : a 60 k < 0 := by
        by_cases z : a 60 k < 0
        · exact z
        · obtain ⟨-, v2, v3, -⟩ := u2 (by omega)
          rw [v2] at q; omega
      have t : topI a (k : Int) = 0 := by unfold topI; rw [if_neg (by omega), if_neg (by show ¬ 0 ≤ a 60 k; omega)]
      refine cs_gather hC hI hk fun G l hF => bX11_wholeTopStatus_30 hn (cs_hasWholeArms hC hI hF (fun w => ?_) (fun w => ?_))
      · have e : whT a (k : Int) = 9 := by unfold whT; rw [t, if_neg (by decide)]; exact if_neg w
        have := hb G (hF.ca hC) hF.kr (by rw [e]; decide)
        rw [e] at this
        exact bX11_wholeTopStatus_37 hn ⟨by decide, fun _ => this, fun q => absurd rfl q⟩
      · have e : whT a (k : Int) = 0 := by unfold whT; rw [t, if_neg (by decide)]; exact if_pos w
        exact bX11_wholeTopStatus_37 hn ⟨by decide, fun q => absurd q (by decide), fun _ => hg k G l rfl hk z w e hF⟩
    · have z : 0 ≤ a 60 k := by
        by_cases z : a 60 k < 0
        · rw [u1 z] at q; exact absurd q (by decide)
        · omega
      have t : topI a (k : Int) = 8 := by unfold topI; rw [if_neg (by omega)]; exact if_pos z
      have w : whT a (k : Int) = 8 := by unfold whT; rw [t]; rfl
      have := hb g hC (Kr.refl g) (by rw [w]; decide)
      rw [w] at this; exact this
theorem whT_st (a : Hp) (w x1 : Int) : whT (up2 a 53 0 w) x1 = whT a x1 := by
  unfold whT
  rw [show topI (up2 a 53 0 w) x1 = topI a x1 from rfl]
  have e : cWh (up2 a 53 0 w) x1.toNat ↔ cWh a x1.toNat := Iff.rfl
  split
  · rfl
  · by_cases c : cWh a x1.toNat
    · rw [if_pos c, if_pos (e.mpr c)]
    · rw [if_neg c, if_neg (fun z => c (e.mp z))]
theorem cntM_st (a : Hp) (w : Int) (k : Nat) : cntM (up2 a 53 0 w) k = cntM a k := by
  unfold cntM mt
  simp only [nr_st]
  rfl
/-- the pairs that the class counts are those of the reference -/
theorem pair_cnt {k : Nat} (hI : Inv a) (h0 : a 60 k < 0) (hw : cWh a k) (nd : l.Nodup) (hm : ∀ y : Nat, y ∈ l ↔ ((y : Int) < a 53 5 ∧ abv (a 60) k 60 y = true)) : pairSum (cmI a 0) l = cntM a k := by
  rw [pairSum_in (cmI a 0) (a 53 5).toNat l nd (fun y hy => by have := ((hm y).mp hy).1; omega) (fun x y hx hy => ?_)]
  · unfold cntM
    refine sumN_cg _ fun x hx => sumN_cg _ fun y hy => ?_
    by_cases c : x < y
    · rw [if_pos c]
      by_cases z : x ∈ l ∧ y ∈ l
      · rw [if_pos ⟨c, z⟩]
        obtain ⟨hx, ax⟩ := (hm x).mp z.1
        obtain ⟨hy, ay⟩ := (hm y).mp z.2
        have en := nr_tc hI h0 hw hx hy ax ay
        have eab : ab (hh a x - hh a y) = (((hh a x - hh a y).natAbs : Nat) : Int) := ab_nat _
        unfold cmI mt
        by_cases w : (a 57 x = 1 ∧ a 57 y = 1) ∧ ab (hh a x - hh a y) ≤ 0 ∧ tc a x y = 1
        · rw [if_pos w, if_pos ⟨⟨⟨ax, w.1.1⟩, ay, w.1.2⟩, en.trans w.2.2, by have := w.2.1; omega⟩]
        · rw [if_neg w, if_neg fun v => w ⟨⟨v.1.1.2, v.1.2.2⟩, by rw [eab]; have := v.2.2; omega, en.symm.trans v.2.1⟩]
      · rw [if_neg fun v => z v.2]
        unfold mt
        rw [if_neg fun v => z ⟨(hm x).mpr ⟨by omega, v.1.1.1⟩, (hm y).mpr ⟨by omega, v.1.2.1⟩⟩]
    · rw [if_neg c, if_neg fun v => c v.1]
  · obtain ⟨hx, ax⟩ := (hm x).mp hx
    obtain ⟨hy, ay⟩ := (hm y).mp hy
    by_cases e : x = y
    · rw [e]
    · unfold cmI
      by_cases w : a 57 x = 1 ∧ a 57 y = 1
      · have two := Wt.two hI h0 hx hy e ⟨ax, w.1⟩ ⟨ay, w.2⟩
        have e1 : ab (hh a x - hh a y) = ab (hh a y - hh a x) := by rw [ab_nat, ab_nat]; omega
        rw [tc_sym hI two, e1]
        by_cases v : ab (hh a y - hh a x) ≤ 0 ∧ tc a y x = 1
        · rw [if_pos ⟨w, v⟩, if_pos ⟨⟨w.2, w.1⟩, v⟩]
        · rw [if_neg fun z => v z.2, if_neg fun z => v z.2]
      · rw [if_neg fun z => w z.1, if_neg fun z => w ⟨z.1.2, z.1.1⟩]
end Clashes
