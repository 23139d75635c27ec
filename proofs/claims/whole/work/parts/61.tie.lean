/-! TIE: both sides -/
theorem td_b {x g : Int} (hx : 0 ≤ x) (hg : 1 ≤ g) : 0 ≤ x.tdiv g ∧ x.tdiv g ≤ x := by
  rw [Int.tdiv_eq_ediv_of_nonneg hx]
  exact ⟨Int.ediv_nonneg hx (by omega), Int.ediv_le_self _ hx⟩
theorem td_pos {x g : Int} (hx : 0 < x) (hg : 1 ≤ g) (hd : g ∣ x) : 1 ≤ x.tdiv g := by
  obtain ⟨u, rfl⟩ := hd
  rw [Int.mul_tdiv_cancel_left _ (by omega)]
  rcases Int.le_total u 0 with c | c
  · have := Int.mul_nonpos_of_nonneg_of_nonpos (a := g) (by omega) c; omega
  · rcases Int.lt_or_le 0 u with d | d
    · omega
    · have : u = 0 := by omega
      rw [this] at hx; simp at hx
theorem td_lt {x y g : Int} (hg : 1 ≤ g) (h : x < y) (hx : g ∣ x) (hy : g ∣ y) : x.tdiv g < y.tdiv g := by
  obtain ⟨u, rfl⟩ := hx
  obtain ⟨v, rfl⟩ := hy
  rw [Int.mul_tdiv_cancel_left _ (by omega), Int.mul_tdiv_cancel_left _ (by omega)]
  exact Int.lt_of_mul_lt_mul_left h (by omega)
abbrev lpo (a : Hp) (k : Nat) : Int := lp a (a 63) k
abbrev lqo (a : Hp) (k : Nat) : Int := lq a (a 63) k
def gq (a : Hp) (k : Nat) : Nat := Int.gcd (lpo a k) (lqo a k)
def tpU (a : Hp) (k : Nat) : Int := (lpo a k).tdiv (gq a k : Int)
def tpL (a : Hp) (k : Nat) : Int := (lqo a k).tdiv (gq a k : Int)
section Tie
variable {d n : Nat} {dy : Nat → Shp} {g a G : Hp} {P : Pst} {l : List Nat}
theorem lqo_b (hI : Inv a) {k : Nat} (hk : (k : Int) < a 53 5) : lqo a k ≤ 1920000000 := by
  have e := ld_eq (v := a 63) hI hk
  have b := (ld_b hI (v := a 63) (B := 16000000) (by decide) (fun y hy => (own_b hI hy).1) k).2
  unfold lqo lq
  omega
theorem gq_b {k : Nat} (hc : 0 < lpo a k) : 1 ≤ (gq a k : Int) := by
  have : gq a k ≠ 0 := fun z => by
    have := (Int.gcd_eq_zero_iff.mp z).1
    omega
  omega
theorem tp_b {k : Nat} (hI : Inv a) (hk : (k : Int) < a 53 5) (hc : 0 < lpo a k ∧ lpo a k < lqo a k) : 1 ≤ tpU a k ∧ tpU a k < tpL a k ∧ tpL a k ≤ 1920000000 := by
  have g1 := gq_b hc.1
  have dP : (gq a k : Int) ∣ lpo a k := Int.gcd_dvd_left ..
  have dQ : (gq a k : Int) ∣ lqo a k := Int.gcd_dvd_right ..
  have b := lqo_b hI hk
  have t := (td_b (x := lqo a k) (by omega) g1).2
  refine ⟨td_pos hc.1 g1 dP, td_lt g1 hc.2 dP dQ, ?_⟩
  unfold tpL; omega
/-- what the class's shares need of the cells -/
def GL (g a G : Hp) (l : List Nat) : Prop := ∀ y : Nat, y ∈ l → (y : Int) < a 53 5 ∧ (G (g 3 y).toNat 8 = ld a (a 63) y ∧ G (g 3 y).toNat 2 = g (g 3 y).toNat 2 ∧ G (g 3 y).toNat 14 = g (g 3 y).toNat 14 ∧ G (g 3 y).toNat 15 = g (g 3 y).toNat 15) ∧ ∀ c : Nat, (c : Int) < a 53 5 → a 60 c = (y : Int) → c ∈ l
theorem GF.gl {k0 : Nat} (hC : Ca n dy g a) (hI : Inv a) (hF : GF g a G k0 l) : GL g a G l := fun y hy => by
  have hyN := ((hF.2.2.2.2.2.1 y).mp hy).1
  have b := hC.cell hyN
  have k : ∀ q, (q < 6 ∨ 10 ≤ q) → G (g 3 y).toNat q = g (g 3 y).toNat q := fun q hq => hF.1 _ q (by omega) (by omega) (Or.inr hq)
  exact ⟨hyN, ⟨(hF.2.2.2.2.2.2 y hy).2.2.1, k 2 (by omega), k 14 (by omega), k 15 (by omega)⟩, fun c hc e => hF.kid hI hy hc e⟩
theorem cs_loadOf2 {j : Nat} {s : Int} (hC : Ca n dy g a) (hI : Inv a) (hF : GL g a G l) (hj : j ∈ l) (hs : -1 ≤ s ∧ s < a 53 5 ∧ (0 ≤ s → a 60 s.toNat = (j : Int))) (h : P (some (L_ (sd a (a 63) s))) n (W0 dy) G) : Runs miX6_loadOf d [.ref (rfx (g 3) s).toNat] n (W0 dy) G P := by
  unfold sd at h
  unfold rfx
  by_cases c : 0 ≤ s
  · rw [if_pos c] at h
    rw [if_neg (by omega)]
    have hsN : ((s.toNat : Nat) : Int) < a 53 5 := by omega
    have hb := hC.cell hsN
    have h8 := (hF _ ((hF j hj).2.2 _ hsN (hs.2.2 c))).2.1.1
    refine wX6_loadOf hC.1 ⟨fun _ => ⟨(hC.2.2.2.1 _ hsN).pt (hI.2.2.1 _ hsN).2, ?_⟩, fun q => by omega⟩
    rw [h8]; exact h
  · rw [if_neg c] at h
    rw [if_pos (by omega)]
    exact wX6_loadOf hC.1 ⟨fun q => absurd q (Nat.lt_irrefl 0), fun _ => h⟩
theorem cs_upperShare {j : Nat} (hC : Ca n dy g a) (hI : Inv a) (hF : GL g a G l) (hj : j ∈ l) (c : a 57 j = 2 ∨ a 57 j = 3) (h : P (some (L_ (lpo a j))) n (W0 dy) G) : Runs miX6_upperShare (d + 1) [.ref (g 3 j).toNat] n (W0 dy) G P := by
  obtain ⟨hjN, ⟨k8, k2, k14, k15⟩, -⟩ := hF j hj
  have ob := (hC.2.2.2.1 j hjN).ob c
  have hp := (hI.2.2.1 j hjN).1
  obtain ⟨-, e14, e15⟩ := (hC.known hjN).2 c
  have e2 : g (g 3 j).toNat 2 = a 63 j := (hC.2.2.2.1 j hjN).2.1.2.2
  refine wX6_upperShare hC.1 ⟨ob, ?_⟩
  rw [k15, e15]
  refine cs_loadOf2 hC hI hF hj ⟨hp.2.2.2.2.1, hp.2.2.2.2.2.1, fun z => (hp.2.2.2.2.2.2 z).1⟩ (bX6_upperShare_10 hC.1 ⟨ob, ?_⟩)
  rw [k2, e2]; exact h
theorem cs_lowerShare {j : Nat} (hC : Ca n dy g a) (hI : Inv a) (hF : GL g a G l) (hj : j ∈ l) (c : a 57 j = 2 ∨ a 57 j = 3) (h : P (some (L_ (lqo a j))) n (W0 dy) G) : Runs miX6_lowerShare (d + 1) [.ref (g 3 j).toNat] n (W0 dy) G P := by
  obtain ⟨hjN, ⟨k8, k2, k14, k15⟩, -⟩ := hF j hj
  have ob := (hC.2.2.2.1 j hjN).ob c
  have hp := (hI.2.2.1 j hjN).1
  obtain ⟨-, e14, e15⟩ := (hC.known hjN).2 c
  have e2 : g (g 3 j).toNat 2 = a 63 j := (hC.2.2.2.1 j hjN).2.1.2.2
  refine wX6_lowerShare hC.1 ⟨ob, ?_⟩
  rw [k14, e14]
  refine cs_loadOf2 hC hI hF hj ⟨hp.2.2.2.1.1, hp.2.2.2.1.2.1, fun z => (hp.2.2.2.1.2.2 z).1⟩ (bX6_lowerShare_10 hC.1 ⟨ob, ?_⟩)
  rw [k15, e15]
  refine cs_loadOf2 hC hI hF hj ⟨hp.2.2.2.2.1, hp.2.2.2.2.2.1, fun z => (hp.2.2.2.2.2.2 z).1⟩ (bX6_lowerShare_17 hC.1 ⟨ob, ?_⟩)
  rw [k2, e2]; exact h
theorem sh_b (hI : Inv a) {k : Nat} (hk : (k : Int) < a 53 5) : (0 ≤ lpo a k ∧ lpo a k ≤ 1936000000) ∧ (0 ≤ lqo a k ∧ lqo a k ≤ 3872000000) := by
  have bp := lp_b hI (VB.own hI) hk
  have bq := lq_b hI (VB.own hI) hk
  unfold lpo lqo; omega
theorem cs_canBeLevel {j : Nat} (hC : Ca n dy g a) (hI : Inv a) (hF : GL g a G l) (hj : j ∈ l) (c : a 57 j = 2 ∨ a 57 j = 3) (h0 : ¬ (0 < lpo a j ∧ lpo a j < lqo a j) → P (some (I_ 0)) n (W0 dy) G) (h1 : (0 < lpo a j ∧ lpo a j < lqo a j) → P (some (I_ 1)) n (W0 dy) G) : Runs miX6_canBeLevel (d + 2) [.ref (g 3 j).toNat] n (W0 dy) G P := by
  have hjN := (hF j hj).1
  have ob := (hC.2.2.2.1 j hjN).ob c
  obtain ⟨bp, bq⟩ := sh_b hI hjN
  refine wX6_canBeLevel hC.1 ⟨ob, cs_upperShare hC hI hF hj c (bX6_canBeLevel_4 hC.1 ⟨⟨by omega, by omega⟩, fun q => h0 (by omega), fun q => ⟨ob, cs_upperShare hC hI hF hj c (bX6_canBeLevel_13 hC.1 ⟨ob, cs_lowerShare hC hI hF hj c (bX6_canBeLevel_17 hC.1 ⟨⟨by omega, by omega⟩, ⟨by omega, by omega⟩, fun z => h0 (by omega), fun z => h1 ⟨q, z⟩⟩)⟩)⟩⟩)⟩
theorem cs_common1 {k : Nat} (hn : 100 ≤ n) (hI : Inv a) (hk : (k : Int) < a 53 5) (hc : 0 < lpo a k) (h : P (some (L_ (gq a k : Int))) n (W0 dy) G) : Runs miX11_commonDivisor (d + 1) [L_ (lpo a k), L_ (lqo a k)] n (W0 dy) G P := by
  obtain ⟨bp, bq⟩ := sh_b hI hk
  have m6 : mx6 = 9223372036854775807 := rfl
  refine cs_common hn (by omega) (by omega) ?_
  have g1 := gq_b hc
  rw [if_neg (fun z => by have : gq a k = 0 := z; omega)]
  exact h
theorem gq_le {k : Nat} (hI : Inv a) (hk : (k : Int) < a 53 5) (hc : 0 < lpo a k) : (gq a k : Int) ≤ 1936000000 := by
  have dP : (gq a k : Int) ∣ lpo a k := Int.gcd_dvd_left ..
  have := Int.le_of_dvd hc dP
  obtain ⟨bp, bq⟩ := sh_b hI hk
  omega
theorem cs_levelUpper {j : Nat} (hC : Ca n dy g a) (hI : Inv a) (hF : GL g a G l) (hj : j ∈ l) (c : a 57 j = 2 ∨ a 57 j = 3) (hc : 0 < lpo a j) (h : P (some (I_ (tpU a j))) n (W0 dy) G) : Runs miX6_levelUpper (d + 2) [.ref (g 3 j).toNat] n (W0 dy) G P := by
  have hjN := (hF j hj).1
  have ob := (hC.2.2.2.1 j hjN).ob c
  obtain ⟨bp, bq⟩ := sh_b hI hjN
  have g1 := gq_b hc
  have g2 := gq_le hI hjN hc
  exact wX6_levelUpper hC.1 ⟨ob, cs_upperShare hC hI hF hj c (bX6_levelUpper_4 hC.1 ⟨ob, cs_upperShare hC hI hF hj c (bX6_levelUpper_8 hC.1 ⟨ob, cs_lowerShare hC hI hF hj c (bX6_levelUpper_12 hC.1 (cs_common1 hC.1 hI hjN hc (bX6_levelUpper_15 hC.1 ⟨⟨by omega, by omega⟩, ⟨by omega, by omega⟩, by omega, h⟩)))⟩)⟩)⟩
theorem cs_levelLower {j : Nat} (hC : Ca n dy g a) (hI : Inv a) (hF : GL g a G l) (hj : j ∈ l) (c : a 57 j = 2 ∨ a 57 j = 3) (hc : 0 < lpo a j) (h : P (some (I_ (tpL a j))) n (W0 dy) G) : Runs miX6_levelLower (d + 2) [.ref (g 3 j).toNat] n (W0 dy) G P := by
  have hjN := (hF j hj).1
  have ob := (hC.2.2.2.1 j hjN).ob c
  obtain ⟨bp, bq⟩ := sh_b hI hjN
  have g1 := gq_b hc
  have g2 := gq_le hI hjN hc
  exact wX6_levelLower hC.1 ⟨ob, cs_lowerShare hC hI hF hj c (bX6_levelLower_4 hC.1 ⟨ob, cs_upperShare hC hI hF hj c (bX6_levelLower_8 hC.1 ⟨ob, cs_lowerShare hC hI hF hj c (bX6_levelLower_12 hC.1 (cs_common1 hC.1 hI hjN hc (bX6_levelLower_15 hC.1 ⟨⟨by omega, by omega⟩, ⟨by omega, by omega⟩, by omega, h⟩)))⟩)⟩)⟩
def opTie (a : Hp) (x1 x2 : Int) : Int × Hp :=
  if 0 < rodI a x1 then (-1, up2 a 53 0 (rodI a x1))
  else if x2 < 0 ∨ 1 < x2 then (-1, up2 a 53 0 7)
  else if 0 < lpo a x1.toNat ∧ lpo a x1.toNat < lqo a x1.toNat then (if x2 = 0 then tpU a x1.toNat else tpL a x1.toNat, a)
  else (-1, up2 a 53 0 11)
theorem cs_tie {x1 x2 : Int} (hC : Ca n dy g a) (hI : Inv a) (h1 : i3 x1) (h2 : i3 x2) (h : ∀ v a' g', opTie (up2 a 53 0 0) x1 x2 = (v, a') → Ca n dy g' a' → Kr g g' → P (some (L_ v)) n (W0 dy) g') : Runs miX11_tie (d + 4) [.ref 1, I_ x1, I_ x2] n (W0 dy) g P := by
  have hn := hC.1
  refine wX11_tie hn (cs_rodGiven hC hI h1 ⟨fun c => ?_, fun c => ?_⟩)
  · refine bX11_tie_5 hn ⟨fun q => absurd q (Nat.lt_irrefl 0), fun _ => h _ _ _ ?_ (hC.st2 0 _) ((Kr.refl g).up (by omega))⟩
    unfold opTie; exact if_pos c
  · obtain ⟨⟨c1, c2⟩, hr⟩ := (rodI_b a x1).2 c
    obtain ⟨k, rfl⟩ := exN c1
    have hk : (k : Int) < a 53 5 := c2
    have hr : a 57 k = 2 ∨ a 57 k = 3 := hr
    have hb := hC.cell hk
    have hC0 := hC.st 0
    have hI0 : Inv (up2 a 53 0 0) := hI
    have hK0 : Kr g (up2 g 1 3 0) := (Kr.refl g).up (by omega)
    have cr : rodI (up2 a 53 0 0) (k : Int) = 0 := c
    show V miX11_tie (d + 4) 5 [(0, .ref 1), (1, I_ (k : Int)), (2, I_ x2)] [.ref (up2 g 1 3 0 3 k).toNat] n (W0 dy) (up2 g 1 3 0) 0 0 P
    have hb0 : 0 < (up2 g 1 3 0 3 k).toNat := show 0 < (g 3 k).toNat by omega
    have hk0 : (k : Int) < up2 a 53 0 0 53 5 := hk
    have hr0 : up2 a 53 0 0 57 k = 2 ∨ up2 a 53 0 0 57 k = 3 := hr
    generalize (up2 g 1 3 0) = g0 at hC0 hK0 hb0 ⊢
    generalize (up2 a 53 0 0) = a0 at h hC0 hI0 cr hk0 hr0
    have eop : opTie a0 (k : Int) x2 = if x2 < 0 ∨ 1 < x2 then (-1, up2 a0 53 0 7) else if 0 < lpo a0 k ∧ lpo a0 k < lqo a0 k then (if x2 = 0 then tpU a0 k else tpL a0 k, a0) else (-1, up2 a0 53 0 11) := by
      unfold opTie; exact if_neg (by rw [cr]; omega)
    rw [eop] at h
    have good : (x2 = 0 ∨ x2 = 1) → Runs miX1_gather (d + 3) [.ref 4, .ref (g0 3 k).toNat] n (W0 dy) g0 (fun v n' S' g' => V miX11_tie (d + 4) 39 [(0, .ref 1), (1, I_ (k : Int)), (2, I_ x2), (3, .ref (g0 3 k).toNat)] (v.toList ++ []) n' S' g' 0 0 P) := fun c2 => by
      rw [if_neg (by omega)] at h
      refine cs_gather hC0 hI0 hk0 fun G l hF => ?_
      have hkl : k ∈ l := List.mem_of_getElem? hF.2.2.2.2.1
      have gl := hF.gl hC0 hI0
      have hCG := hF.ca hC0
      have hKG := hK0.trans hF.kr
      have ob := (hC0.2.2.2.1 k hk0).ob hr0
      refine bX11_tie_39 hn ⟨ob, cs_canBeLevel hC0 hI0 gl hkl hr0 (fun z => ?_) (fun z => ?_)⟩
      · rw [if_neg z] at h
        exact bX11_tie_43 hn ⟨by decide, fun q => absurd rfl q, fun _ => wX11_none hn ⟨by decide, bX11_tie_52 hn ⟨by decide, h _ _ _ rfl (hCG.st 11) (hKG.up (by omega))⟩⟩⟩
      · rw [if_pos z] at h
        have tb := tp_b hI0 hk0 z
        refine bX11_tie_43 hn ⟨by decide, fun _ => ⟨h2, fun q => ⟨ob, cs_levelLower hC0 hI0 gl hkl hr0 z.1 (bX11_tie_70 hn ⟨⟨by omega, by omega⟩, h _ _ _ (by rw [if_neg q]) hCG hKG⟩)⟩, fun q => ⟨ob, cs_levelUpper hC0 hI0 gl hkl hr0 z.1 (bX11_tie_62 hn ⟨⟨by omega, by omega⟩, h _ _ _ (by rw [if_pos q]) hCG hKG⟩)⟩⟩, fun q => absurd q (by decide)⟩
    refine bX11_tie_5 hn ⟨fun _ => ⟨h2, fun q => good (Or.inl q), fun q => ⟨fun q2 => good (Or.inr q2), fun q2 => ?_⟩⟩, fun q => by omega⟩
    rw [if_pos (by omega)] at h
    exact wX11_none hn ⟨by decide, bX11_tie_29 hn ⟨by decide, h _ _ _ rfl (hC0.st 7) (hK0.up (by omega))⟩⟩
theorem sp_canBeLevel {k : Nat} {v : Nat → Int} (hn : 100 ≤ n) (hI : Inv a) (hv : VB a v) (hL : LR a G v) (hk : (k : Int) < a 53 5) (h0 : ¬ (0 < lp a v k ∧ lp a v k < lq a v k) → P (some (I_ 0)) n (W0 dy) G) (h1 : (0 < lp a v k ∧ lp a v k < lq a v k) → P (some (I_ 1)) n (W0 dy) G) : Runs miX12_canBeLevel (d + 2) [.ref 53, I_ (k : Int)] n (W0 dy) G P := by
  have bp := lp_b hI hv hk
  have bq := lq_b hI hv hk
  exact wX12_canBeLevel hn (sp_levelP hn hI hL hk (bX12_canBeLevel_5 hn ⟨⟨by omega, by omega⟩, fun q => h0 (by omega), fun q => sp_levelP hn hI hL hk (bX12_canBeLevel_15 hn (sp_levelQ hn hI hL hk (bX12_canBeLevel_20 hn ⟨⟨by omega, by omega⟩, ⟨by omega, by omega⟩, fun z => h0 (by omega), fun z => h1 ⟨q, z⟩⟩)))⟩))
theorem rs_tie {x1 x2 : Int} (hn : 100 ≤ n) (hI : Inv g) (h1 : i3 x1) (h2 : i3 x2) (h : ∀ v g' a', opTie (up2 (up2 g 53 1 0) 53 0 0) x1 x2 = (v, a') → rz g' = rz a' → Kc (up2 (up2 g 53 1 0) 53 0 0) g' → P (some (L_ v)) n (W0 dy) g') : Runs miX12_tie (d + 3) [.ref 53, I_ x1, I_ x2] n (W0 dy) g P := by
  have hI1 : Inv (up2 g 53 1 0) := hI
  refine wX12_tie hn ?_
  generalize (up2 g 53 1 0) = g1 at h hI1 ⊢
  clear hI
  have hb := rodI_b g1 x1
  refine spX12_rodded hn hI1.1.2 h1 (bX12_tie_11 hn ⟨?_, fun q => ⟨h2, ?_⟩, fun q => ?_⟩)
  · rcases hb.1 with e | e | e <;> rw [e] <;> decide
  · have c : rodI g1 x1 = 0 := by omega
    rw [c]
    obtain ⟨⟨c1, c2⟩, c3⟩ := hb.2 c
    obtain ⟨k, rfl⟩ := exN c1
    have hI2 : Inv (up2 g1 53 0 0) := hI1
    have ct : rodI (up2 g1 53 0 0) (k : Int) = 0 := c
    have c2' : (k : Int) < up2 g1 53 0 0 53 5 := c2
    generalize (up2 g1 53 0 0) = a at h hI2 ct c2' ⊢
    clear q c c1 c2 c3 hI1 hb
    have eop : opTie a (k : Int) x2 = if x2 < 0 ∨ 1 < x2 then (-1, up2 a 53 0 7) else if 0 < lpo a k ∧ lpo a k < lqo a k then (if x2 = 0 then tpU a k else tpL a k, a) else (-1, up2 a 53 0 11) := by
      unfold opTie; exact if_neg (by rw [ct]; omega)
    rw [eop] at h
    have bad : (x2 < 0 ∨ 1 < x2) → Runs miX12_refuse (d + 2) [.ref 53, I_ 7] n (W0 dy) a (fun v n' S' g' => V miX12_tie (d + 3) 40 [(0, .ref 53), (1, I_ (k : Int)), (2, I_ x2)] (v.toList ++ []) n' S' g' 0 0 P) := fun z => by
      rw [if_pos z] at h
      exact wX12_refuse hn ⟨by decide, bX12_tie_40 hn ⟨by decide, h _ _ _ rfl rfl ((Kc.refl _).up (by omega))⟩⟩
    refine ⟨fun q => bad (Or.inl q), fun q => ⟨fun q2 => ?_, fun q2 => bad (Or.inr q2)⟩⟩
    rw [if_neg (by omega)] at h
    refine rs_allThere hn hI2 fun G r hL _ _ _ => bX12_tie_46 hn ?_
    have vb := VB.own hI2
    obtain ⟨bp, bq⟩ := sh_b hI2 c2'
    refine sp_canBeLevel hn hI2 vb hL c2' (fun z => ?_) (fun z => ?_)
    · rw [if_neg z] at h
      refine bX12_tie_51 hn ⟨by decide, fun q => absurd rfl q, fun _ => wX12_refuse hn ⟨by decide, bX12_tie_60 hn ⟨by decide, h _ _ _ rfl ?_ ?_⟩⟩⟩
      · rw [rz_f0, rz_f0, hL.rz]
      · exact hL.kc.up (by omega)
    · rw [if_pos z] at h
      have z : 0 < lpo a k ∧ lpo a k < lqo a k := z
      have g1 := gq_b z.1
      have g2 := gq_le hI2 c2' z.1
      have m6 : mx6 = 9223372036854775807 := rfl
      refine bX12_tie_51 hn ⟨by decide, fun _ => sp_levelP hn hI2 hL c2' (bX12_tie_67 hn (sp_levelQ hn hI2 hL c2' (bX12_tie_72 hn (spX12_common hn (x := lpo a k) (y := lqo a k) (by omega) (by omega) ?_)))), fun q => absurd q (by decide)⟩
      refine bX12_tie_75 (xs0 := (gq a k : Int)) hn ⟨h2, fun q => sp_levelQ hn hI2 hL c2' (bX12_tie_93 (xs0 := lqo a k) hn ⟨⟨by omega, by omega⟩, ⟨by omega, by omega⟩, by omega, h _ _ _ (by rw [if_neg q]; rfl) hL.rz hL.kc⟩), fun q => sp_levelP hn hI2 hL c2' (bX12_tie_85 hn (bX12_tie_93 (xs0 := lpo a k) hn ⟨⟨by omega, by omega⟩, ⟨by omega, by omega⟩, by omega, h _ _ _ (by rw [if_pos q]; rfl) hL.rz hL.kc⟩))⟩
  · have e : up2 g1 53 0 (rodI g1 x1) = up2 (up2 g1 53 0 0) 53 0 (rodI g1 x1) := by rw [up2_up]
    rw [e]
    refine h _ _ _ ?_ rfl ((Kc.refl _).up (by omega))
    unfold opTie; exact if_pos q
theorem lpo_rz {g g1 : Hp} (h : rz g1 = rz g) (k : Nat) : lpo g1 k = lpo g k := by
  unfold lpo lp
  rw [sd_rz h, rz_of h (i := 63) (q := k) rfl, rz_of h (i := 67) (q := k) rfl]
theorem lqo_rz {g g1 : Hp} (h : rz g1 = rz g) (k : Nat) : lqo g1 k = lqo g k := by
  unfold lqo lq
  rw [sd_rz h, sd_rz h, rz_of h (i := 63) (q := k) rfl, rz_of h (i := 67) (q := k) rfl, rz_of h (i := 66) (q := k) rfl]
theorem tp_rz {g g1 : Hp} (h : rz g1 = rz g) (k : Nat) : tpU g1 k = tpU g k ∧ tpL g1 k = tpL g k := by
  unfold tpU tpL gq
  rw [lpo_rz h, lqo_rz h]; exact ⟨rfl, rfl⟩
theorem opTie_cg {g g1 : Hp} (h : rz g1 = rz g) (x1 x2 : Int) : (opTie g1 x1 x2).1 = (opTie g x1 x2).1 ∧ rz (opTie g1 x1 x2).2 = rz (opTie g x1 x2).2 := by
  unfold opTie
  rw [rodI_rz h, lpo_rz h, lqo_rz h, (tp_rz h _).1, (tp_rz h _).2]
  have st : ∀ T : Int, rz (up2 g1 53 0 T) = rz (up2 g 53 0 T) := fun T => by rw [rz_f0, rz_f0, h]
  split
  · exact ⟨rfl, st _⟩
  · split
    · exact ⟨rfl, st _⟩
    · split
      · exact ⟨rfl, h⟩
      · exact ⟨rfl, st _⟩
theorem inv_tieop {a : Hp} (hI : Inv a) (x1 x2 : Int) : Inv (opTie a x1 x2).2 := by
  unfold opTie
  split
  · exact hI.st _
  · split
    · exact hI.st _
    · split
      · exact hI
      · exact hI.st _
end Tie
