/-! FEWEST: the class -/
abbrev bareP (a : Hp) (k : Nat) : Prop := ∀ y : Nat, y < (a 53 5).toNat → abv (a 60) k 60 y = true → (a 57 y = 2 ∨ a 57 y = 3) → sd a (v9 a) (a 66 y) * a 64 y = sd a (v9 a) (a 67 y) * (a 65 y - a 64 y)
def kp (a : Hp) (W : List Nat) : Hp := fun i q => if i = 53 ∧ q = 26 then (W.length : Int) else if i = 77 ∧ q < W.length then ((W[q]?.getD 0 : Nat) : Int) else a i q
def wrN (a : Hp) (k : Nat) : Int := sumN (fun y => if abv (a 60) k 60 y = true then wr a y else 0) (a 53 5).toNat
def nW (a : Hp) (k : Nat) : Int := ((wts a k (a 53 5).toNat).length : Int)
def fsI (a : Hp) (k : Nat) (x2 : Int) : Int :=
  if ¬ (a 57 k = 2 ∨ a 57 k = 3) then 5 else if x2 < 0 ∨ 14 < x2 then 7 else if 0 ≤ a 60 k then 8 else if 0 < wrN a k then 9 else if 14 < nW a k then 10 else 0
def opFewest (a : Hp) (x1 x2 : Int) : Int × Hp :=
  if x1 < 0 ∨ a 53 5 ≤ x1 then (-1, up2 a 53 0 2)
  else if fsI a x1.toNat x2 ≠ 0 then (-1, up2 a 53 0 (fsI a x1.toNat x2))
  else if x2 = 0 then (0, up2 a 53 26 0)
  else if x2 ≤ nW a x1.toNat ∧ bareP a x1.toNat then (nW a x1.toNat, kp a (wts a x1.toNat (a 53 5).toNat))
  else (-1, up2 a 53 0 11)
section Fewest1
variable {d n : Nat} {dy : Nat → Shp} {g a G : Hp} {P : Pst} {l : List Nat} {k0 : Nat}
theorem wrN_b (hI : Inv a) (k : Nat) : 0 ≤ wrN a k ∧ wrN a k ≤ 60 := by
  have hN := hI.1
  have := sumN_b (f := fun y => if abv (a 60) k 60 y = true then wr a y else 0) (B := 1) (a 53 5).toNat (fun y _ => by
    show 0 ≤ (if abv (a 60) k 60 y = true then wr a y else 0) ∧ (if abv (a 60) k 60 y = true then wr a y else 0) ≤ 1
    unfold wr
    repeat' split
    all_goals omega)
  have e : wrN a k = sumN (fun y => if abv (a 60) k 60 y = true then wr a y else 0) (a 53 5).toNat := rfl
  omega
theorem nW_b (hI : Inv a) (k : Nat) : 0 ≤ nW a k ∧ nW a k ≤ 60 := by
  have hN := hI.1
  have := (wts_nd (a := a) (k := k) (a 53 5).toNat).2
  unfold nW; omega
theorem cnt_nW (hI : Inv a) (nd : l.Nodup) (hm : ∀ y : Nat, y ∈ l ↔ ((y : Int) < a 53 5 ∧ abv (a 60) k0 60 y = true)) : sumL (fun y => if a 57 y = 1 then 1 else 0) l = nW a k0 := by
  have hN := hI.1
  unfold nW
  rw [wts_len, sumL_in _ (a 53 5).toNat l nd (fun y hy => by have := ((hm y).mp hy).1; omega)]
  refine sumN_cg _ fun y hy => ?_
  by_cases c : y ∈ l
  · rw [if_pos c]
    have := ((hm y).mp c).2
    by_cases d : a 57 y = 1
    · rw [if_pos d, if_pos ⟨this, d⟩]
    · rw [if_neg d, if_neg fun z => d z.2]
  · rw [if_neg c, if_neg fun z => c ((hm y).mpr ⟨by omega, z.1⟩)]
theorem cs_countOf {G0 : Hp} (hC : Ca n dy g a) (hI : Inv a) (hF : GF g a G0 k0 l) (hG : ∀ i q, i ≠ 1 → G i q = G0 i q) (h : P (some (I_ (nW a k0))) n (W0 dy) G) : Runs miX1_countOf d [.ref 4, I_ 1] n (W0 dy) G P := by
  have hn := hC.1
  have e41 := (hG 4 1 (by decide)).trans hF.2.1.1
  have l60 := hF.2.1.2.1
  have hm := hF.2.2.2.2.2.1
  rw [← cnt_nW hI hF.2.1.2.2 hm] at h
  have key : ∀ (r : List Nat) (i : Nat) (x : Int), i ≤ l.length → l.drop i = r → x + sumL (fun y => if a 57 y = 1 then 1 else 0) r = sumL (fun y => if a 57 y = 1 then 1 else 0) l → V miX1_countOf d 4 [(0, .ref 4), (1, I_ 1), (2, I_ x), (3, I_ (i : Int))] [] n (W0 dy) G 0 0 P := by
    intro r
    induction r with
    | nil =>
      intro i x hi hr hx
      have hl := List.drop_eq_nil_iff.mp hr
      have hx : x + 0 = sumL (fun y => if a 57 y = 1 then 1 else 0) l := hx
      refine bX1_countOf_4 hn ⟨⟨by omega, by omega⟩, fun _ => ?_, fun q => by omega⟩
      rw [show x = sumL (fun y => if a 57 y = 1 then 1 else 0) l by omega]; exact h
    | cons y r ih =>
      intro i x hi hr hx
      obtain ⟨e, er, il⟩ := dropc hr
      have hx : x + ((if a 57 y = 1 then 1 else 0) + sumL (fun y => if a 57 y = 1 then 1 else 0) r) = sumL (fun y => if a 57 y = 1 then 1 else 0) l := hx
      have hyN := ((hm y).mp (List.mem_of_getElem? e)).1
      have b := hC.cell hyN
      have k1 : G (g 3 y).toNat 1 = a 57 y := by
        rw [hG _ _ (by omega), hF.1 _ _ (by omega) (by omega) (by omega)]; exact (hC.2.2.2.1 y hyN).2.1.2.1
      refine bX1_countOf_4 hn ⟨⟨by omega, by omega⟩, fun q => by omega, fun _ => ⟨⟨by omega, by omega⟩, ?_⟩⟩
      rw [show G 5 ((i : Nat) : Int).toNat = g 3 y from (hG 5 i (by decide)).trans (hF.2.2.1 i y e), k1, show ((i : Nat) : Int) + 1 = ((i + 1 : Nat) : Int) by omega]
      refine ⟨(hC.2.2.2.1 y hyN).pt (hI.2.2.1 y hyN).2, by decide, fun q => ?_, fun q => ?_⟩
      · rw [if_neg q] at hx; exact ih (i + 1) x (by omega) er (by omega)
      · rw [if_pos q] at hx; exact ih (i + 1) (x + 1) (by omega) er (by omega)
  exact wX1_countOf hn (key l 0 0 (Nat.zero_le _) rfl (by omega))
theorem v9_b (hI : Inv a) {y : Nat} (hy : (y : Int) < a 53 5) : 0 ≤ v9 a y ∧ v9 a y ≤ 16000000 := (own_b hI hy).2
theorem cs_bareLossOf {G0 : Hp} {j : Nat} {s : Int} (hC : Ca n dy g a) (hI : Inv a) (hF : GF g a G0 k0 l) (hG : ∀ i q, i ≠ 1 → G i q = G0 i q) (hj : j ∈ l) (hs : -1 ≤ s ∧ s < a 53 5 ∧ (0 ≤ s → a 60 s.toNat = (j : Int))) (h : P (some (L_ (sd a (v9 a) s))) n (W0 dy) G) : Runs miX6_bareLossOf d [.ref (rfx (g 3) s).toNat] n (W0 dy) G P := by
  unfold sd at h
  unfold rfx
  by_cases c : 0 ≤ s
  · rw [if_pos c] at h
    rw [if_neg (by omega)]
    have hsN : ((s.toNat : Nat) : Int) < a 53 5 := by omega
    have hb := hC.cell hsN
    have hm := hF.kid hI hj hsN (hs.2.2 c)
    have h9 := (hF.2.2.2.2.2.2 _ hm).2.2.2
    refine wX6_bareLossOf hC.1 ⟨fun _ => ⟨(hC.2.2.2.1 _ hsN).pt (hI.2.2.1 _ hsN).2, ?_⟩, fun q => by omega⟩
    rw [hG _ _ (by omega), h9]; exact h
  · rw [if_neg c] at h
    rw [if_pos (by omega)]
    exact wX6_bareLossOf hC.1 ⟨fun q => absurd q (Nat.lt_irrefl 0), fun _ => h⟩
theorem cs_keeps {G0 : Hp} {j : Nat} (hC : Ca n dy g a) (hI : Inv a) (hF : GF g a G0 k0 l) (hG : ∀ i q, i ≠ 1 → G i q = G0 i q) (hj : j ∈ l) (c : a 57 j = 2 ∨ a 57 j = 3) (h0 : sd a (v9 a) (a 66 j) * a 64 j ≠ sd a (v9 a) (a 67 j) * (a 65 j - a 64 j) → P (some (I_ 0)) n (W0 dy) G) (h1 : sd a (v9 a) (a 66 j) * a 64 j = sd a (v9 a) (a 67 j) * (a 65 j - a 64 j) → P (some (I_ 1)) n (W0 dy) G) : Runs miX6_keepsLevelBare (d + 1) [.ref (g 3 j).toNat] n (W0 dy) G P := by
  have hn := hC.1
  have hjN := ((hF.2.2.2.2.2.1 j).mp hj).1
  have ob := (hC.2.2.2.1 j hjN).ob c
  have hp := (hI.2.2.1 j hjN).1
  obtain ⟨⟨e12, e13⟩, e14, e15⟩ := (hC.known hjN).2 c
  have b := hC.cell hjN
  have k : ∀ q, (q < 6 ∨ 10 ≤ q) → G (g 3 j).toNat q = g (g 3 j).toNat q := fun q hq => (hG _ _ (by omega)).trans (hF.1 _ q (by omega) (by omega) (Or.inr hq))
  obtain ⟨-, rb⟩ := rod_k hI hjN c
  have VB9 : VB a (v9 a) := fun y hy => v9_b hI hy
  have p1 := pr_b (sdv_b hI VB9 (a 66 j)) (show 0 ≤ a 64 j ∧ a 64 j ≤ 1920000000 by omega)
  have p2 := pr_b (sdv_b hI VB9 (a 67 j)) (show 0 ≤ a 65 j - a 64 j ∧ a 65 j - a 64 j ≤ 1920000000 by omega)
  refine wX6_keepsLevelBare hn ⟨ob, ?_⟩
  rw [k 14 (by omega), e14]
  refine cs_bareLossOf hC hI hF hG hj ⟨hp.2.2.2.1.1, hp.2.2.2.1.2.1, fun z => (hp.2.2.2.1.2.2 z).1⟩ (bX6_keepsLevelBare_7 hn ⟨ob, ?_⟩)
  rw [k 15 (by omega), k 12 (by omega), e15, e12]
  refine cs_bareLossOf hC hI hF hG hj ⟨hp.2.2.2.2.1, hp.2.2.2.2.2.1, fun z => (hp.2.2.2.2.2.2 z).1⟩ (bX6_keepsLevelBare_20 hn ⟨ob, ?_⟩)
  rw [k 13 (by omega), k 12 (by omega), e13, e12]
  generalize sd a (v9 a) (a 66 j) * a 64 j = m1 at *
  generalize sd a (v9 a) (a 67 j) * (a 65 j - a 64 j) = m2 at *
  exact ⟨⟨by omega, by omega⟩, ⟨by omega, by omega⟩, ⟨by omega, by omega⟩, h0, h1⟩
theorem cs_staysLevelBare {G0 : Hp} (hC : Ca n dy g a) (hI : Inv a) (hF : GF g a G0 k0 l) (hG : ∀ i q, i ≠ 1 → G i q = G0 i q) (h0 : ¬ bareP a k0 → P (some (I_ 0)) n (W0 dy) G) (h1 : bareP a k0 → P (some (I_ 1)) n (W0 dy) G) : Runs miX1_staysLevelBare (d + 2) [.ref 4] n (W0 dy) G P := by
  have hn := hC.1
  have e41 := (hG 4 1 (by decide)).trans hF.2.1.1
  have l60 := hF.2.1.2.1
  have hm := hF.2.2.2.2.2.1
  have key : ∀ (r : List Nat) (i : Nat), i ≤ l.length → l.drop i = r → (∀ y, y ∈ l.take i → (a 57 y = 2 ∨ a 57 y = 3) → sd a (v9 a) (a 66 y) * a 64 y = sd a (v9 a) (a 67 y) * (a 65 y - a 64 y)) → V miX1_staysLevelBare (d + 2) 2 [(0, .ref 4), (1, I_ (i : Int))] [] n (W0 dy) G 0 0 P := by
    intro r
    induction r with
    | nil =>
      intro i hi hr hx
      have hl := List.drop_eq_nil_iff.mp hr
      refine bX1_staysLevelBare_2 hn ⟨⟨by omega, by omega⟩, fun _ => h1 fun y hy ab rod => hx y ?_ rod, fun q => by omega⟩
      rw [List.take_of_length_le hl]
      exact (hm y).mpr ⟨by omega, ab⟩
    | cons y r ih =>
      intro i hi hr hx
      obtain ⟨e, er, il⟩ := dropc hr
      have hy := List.mem_of_getElem? e
      obtain ⟨hyN, hya⟩ := (hm y).mp hy
      have hK := (hI.2.2.1 y hyN).2
      have hp := hC.2.2.2.1 y hyN
      have ek := hp.isk hK
      have nx : ((a 57 y = 2 ∨ a 57 y = 3) → sd a (v9 a) (a 66 y) * a 64 y = sd a (v9 a) (a 67 y) * (a 65 y - a 64 y)) → V miX1_staysLevelBare (d + 2) 2 [(0, .ref 4), (1, I_ ((i : Int) + 1))] [] n (W0 dy) G 0 0 P := fun hc => by
        rw [show ((i : Nat) : Int) + 1 = ((i + 1 : Nat) : Int) by omega]
        refine ih (i + 1) (by omega) er fun z hz rod => ?_
        rcases (mem_tk e).mp hz with q | q
        · exact hx z q rod
        · rw [q] at rod ⊢; exact hc rod
      refine bX1_staysLevelBare_2 hn ⟨⟨by omega, by omega⟩, fun q => by omega, fun _ => ⟨⟨by omega, by omega⟩, ?_⟩⟩
      rw [show G 5 ((i : Nat) : Int).toNat = g 3 y from (hG 5 i (by decide)).trans (hF.2.2.1 i y e)]
      refine ⟨Or.inr (hp.pt hK), fun q => nx fun c => ?_, fun q => ?_⟩
      · rw [if_pos c] at ek; omega
      · have c : a 57 y = 2 ∨ a 57 y = 3 := Decidable.byContradiction fun c => by rw [if_neg c] at ek; exact q ek
        refine ⟨hp.ob c, cs_keeps hC hI hF hG hy c (fun z => ?_) (fun z => ?_)⟩
        · exact bX1_staysLevelBare_33 hn ⟨by decide, fun q => absurd rfl q, fun _ => h0 fun w => z (w y (by omega) hya c)⟩
        · exact bX1_staysLevelBare_33 hn ⟨by decide, fun _ => nx fun _ => z, fun q => absurd q (by decide)⟩
  exact wX1_staysLevelBare hn (key l 0 (Nat.zero_le _) rfl (fun y hy => by simp at hy))
theorem CQ.row {g3 : Nat → Int} {u : Nat → Nat → Int} {a' : Hp} {k : Nat} (h : CQ n dy g3 u a k) (e : ∀ i, 54 ≤ i → i ≤ 76 → a' i = a i) : CQ n dy g3 u a' k := by
  unfold CQ mdl at h ⊢
  rw [e 57 (by decide) (by decide), e 58 (by decide) (by decide), e 59 (by decide) (by decide), e 60 (by decide) (by decide), e 61 (by decide) (by decide), e 62 (by decide) (by decide), e 63 (by decide) (by decide), e 64 (by decide) (by decide), e 65 (by decide) (by decide), e 66 (by decide) (by decide), e 67 (by decide) (by decide), e 68 (by decide) (by decide), e 69 (by decide) (by decide), e 70 (by decide) (by decide)]
  exact h
/-- the kept ones -/
theorem Ca.kept (hC : Ca n dy g a) {g' a' : Hp} (hg : ∀ i q, i ≠ 36 → (i ≠ 1 ∨ q ≠ 11) → g' i q = g i q) (ha : ∀ i q, i ≠ 77 → (i ≠ 53 ∨ q ≠ 26) → a' i q = a i q) (h : g' 1 11 = a' 53 26 ∧ ∀ i : Nat, (i : Int) < a' 53 26 → g' 36 i = a' 77 i) : Ca n dy g' a' := by
  obtain ⟨h0, ⟨h1, h2⟩, h3, h4, -, h7, h8, h9⟩ := hC
  have e5 : a' 53 5 = a 53 5 := ha 53 5 (by decide) (by decide)
  have e0 : a' 53 0 = a 53 0 := ha 53 0 (by decide) (by decide)
  have e29 : a' 53 29 = a 53 29 := ha 53 29 (by decide) (by decide)
  have e3 : g' 3 = g 3 := funext fun q => hg 3 q (by decide) (Or.inl (by decide))
  have er : ∀ i, 54 ≤ i → i ≤ 76 → a' i = a i := fun i i1 i2 => funext fun q => ha i q (by omega) (by omega)
  refine ⟨h0, ⟨by rw [hg 1 2 (by decide) (by decide), e5]; exact h1, by rw [hg 1 3 (by decide) (by decide), e0]; exact h2⟩, fun t ht => ?_, fun k hk => ?_, h, by rw [hg 37 1 (by decide) (by decide), e29]; exact h7, fun i hi hj => ?_, fun p hp => by rw [hg 23 p (by decide) (Or.inl (by decide))]; exact h9 p hp⟩
  · have d := h3 t ht
    unfold CT at d ⊢
    rw [hg 2 t (by decide) (Or.inl (by decide)), hg (41 + 2 * t) 0 (by omega) (by omega), hg (41 + 2 * t) 1 (by omega) (by omega), er 55 (by decide) (by decide), er 54 (by decide) (by decide), er 56 (by decide) (by decide)]
    refine ⟨d.1, ?_⟩
    rcases d.2 with e | ⟨e1, e2, e4, e6⟩
    · exact Or.inl e
    · exact Or.inr ⟨e1, e2, e4, fun q hq => by rw [hg (42 + 2 * t) q (by omega) (by omega)]; exact e6 q hq⟩
  · rw [e5] at hk
    have hp := h4 k hk
    have hb : 100 ≤ g 3 k ∧ g 3 k < n := hp.1
    unfold CP
    rw [e3]
    refine CQ.row (CQ.cong hp (Nat.le_refl _) rfl rfl (fun j _ => rfl) (fun q _ => ?_)) er
    exact hg _ q (by omega) (by omega)
  · rw [e29] at hi
    rw [hg 38 i (by decide) (Or.inl (by decide)), ha 78 i (by decide) (Or.inl (by decide))]; exact h8 i hi hj
end Fewest1
