/-! BEARS, TILTS: the class -/
section Bears
variable {d n : Nat} {dy : Nat → Shp} {g a : Hp} {P : Pst}
theorem GF.ca {G : Hp} {k0 : Nat} {l : List Nat} (hF : GF g a G k0 l) (hC : Ca n dy g a) : Ca n dy G a := hC.keep fun i q hi => by
  unfold cl at hi
  exact hF.1 i q (by omega) (by omega) (by omega)
theorem GF.kr {G : Hp} {k0 : Nat} {l : List Nat} (hF : GF g a G k0 l) : Kr g G := fun i q hi => hF.1 i q (by omega) (by omega) (by omega)
theorem GF.g3 {G : Hp} {k0 : Nat} {l : List Nat} (hF : GF g a G k0 l) (q : Nat) : G 3 q = g 3 q := hF.1 3 q (by omega) (by omega) (by omega)
theorem GF.kid {G : Hp} {k0 : Nat} {l : List Nat} (hF : GF g a G k0 l) (hI : Inv a) {j c : Nat} (hj : j ∈ l) (hc : (c : Int) < a 53 5) (e : a 60 c = (j : Int)) : c ∈ l := by
  obtain ⟨dp, hD⟩ := hI.dp
  have hm := hF.2.2.2.2.2.1
  refine (hm c).mpr ⟨hc, ?_⟩
  rw [abv_eq hD hI.1.2 hc, e]
  by_cases z : c = k0
  · rw [if_pos z]
  · rw [if_neg z, if_neg (by omega)]; exact ((hm j).mp hj).2
/-- what the side weighs, as the class reads it -/
theorem cs_loadOf {G : Hp} {k0 j : Nat} {l : List Nat} {s : Int} (hC : Ca n dy g a) (hI : Inv a) (hF : GF g a G k0 l) (hj : j ∈ l) (hs : -1 ≤ s ∧ s < a 53 5 ∧ (0 ≤ s → a 60 s.toNat = (j : Int))) (h : P (some (L_ (sd a (a 63) s))) n (W0 dy) G) : Runs miX6_loadOf d [.ref (rfx (g 3) s).toNat] n (W0 dy) G P := by
  unfold sd at h
  unfold rfx
  by_cases c : 0 ≤ s
  · rw [if_pos c] at h
    rw [if_neg (by omega)]
    have hsN : ((s.toNat : Nat) : Int) < a 53 5 := by omega
    have hb := hC.cell hsN
    have hm := hF.kid hI hj hsN (hs.2.2 c)
    have h8 := (hF.2.2.2.2.2.2 _ hm).2.2.1
    refine wX6_loadOf hC.1 ⟨fun _ => ⟨(hC.2.2.2.1 _ hsN).pt (hI.2.2.1 _ hsN).2, ?_⟩, fun q => by omega⟩
    rw [h8]; exact h
  · rw [if_neg c] at h
    rw [if_pos (by omega)]
    exact wX6_loadOf hC.1 ⟨fun q => absurd q (Nat.lt_irrefl 0), fun _ => h⟩
/-- how a rod leans -/
def len (a : Hp) (k : Nat) : Int := 2 * (sd a (a 63) (a 66 k) * a 64 k - sd a (a 63) (a 67 k) * (a 65 k - a 64 k)) + a 63 k * (2 * a 64 k - a 65 k)
theorem sd_b (hI : Inv a) (s : Int) : 0 ≤ sd a (a 63) s ∧ sd a (a 63) s ≤ 960000000 := by
  have := ld_b hI (v := a 63) (B := 16000000) (by decide) (fun y hy => (own_b hI hy).1) s.toNat
  unfold sd
  split <;> omega
theorem rod_k (hI : Inv a) {k : Nat} (hk : (k : Int) < a 53 5) (c : a 57 k = 2 ∨ a 57 k = 3) : (0 ≤ a 63 k ∧ a 63 k ≤ 1000000) ∧ (1 ≤ a 64 k ∧ a 64 k < a 65 k ∧ a 65 k ≤ 1920000000) := by
  rcases (hI.2.2.1 k hk).2 with z | z | z
  · omega
  · obtain ⟨z1, z2, z3, z4, z5⟩ := z
    have m0 : 0 ≤ a 59 k * a 58 k := Int.mul_nonneg (by omega) (by omega)
    have m1 : a 59 k * a 58 k ≤ 1000 * 1000 := Int.mul_le_mul z2.2 z3.2 z3.1 (by omega)
    exact ⟨by omega, z5⟩
  · omega
theorem pr_b {x y X Y : Int} (hx : 0 ≤ x ∧ x ≤ X) (hy : 0 ≤ y ∧ y ≤ Y) : 0 ≤ x * y ∧ x * y ≤ X * Y := ⟨Int.mul_nonneg hx.1 hy.1, Int.mul_le_mul hx.2 hy.2 hy.1 (by omega)⟩
theorem len_b (hI : Inv a) {k : Nat} (hk : (k : Int) < a 53 5) (c : a 57 k = 2 ∨ a 57 k = 3) : i6 (len a k) := by
  obtain ⟨b1, b2⟩ := rod_k hI hk c
  have p1 := pr_b (sd_b hI (a 66 k)) (show 0 ≤ a 64 k ∧ a 64 k ≤ 1920000000 by omega)
  have p2 := pr_b (sd_b hI (a 67 k)) (show 0 ≤ a 65 k - a 64 k ∧ a 65 k - a 64 k ≤ 1920000000 by omega)
  have p3 := pr_b b1 (show 0 ≤ a 64 k ∧ a 64 k ≤ 1920000000 by omega)
  have p4 := pr_b b1 (show 0 ≤ a 65 k ∧ a 65 k ≤ 1920000000 by omega)
  have e : a 63 k * (2 * a 64 k - a 65 k) = 2 * (a 63 k * a 64 k) - a 63 k * a 65 k := by
    rw [Int.mul_sub, ← Int.mul_assoc, Int.mul_comm (a 63 k) 2, Int.mul_assoc]
  unfold len
  rw [e]
  generalize sd a (a 63) (a 66 k) * a 64 k = m1 at *
  generalize sd a (a 63) (a 67 k) * (a 65 k - a 64 k) = m2 at *
  generalize a 63 k * a 64 k = m3 at *
  generalize a 63 k * a 65 k = m4 at *
  clear e
  exact ⟨by omega, by omega⟩
theorem cs_lean {G : Hp} {k0 j : Nat} {l : List Nat} (hC : Ca n dy g a) (hI : Inv a) (hF : GF g a G k0 l) (hj : j ∈ l) (c : a 57 j = 2 ∨ a 57 j = 3) (h : P (some (L_ (len a j))) n (W0 dy) G) : Runs miX6_lean (d + 1) [.ref (g 3 j).toNat] n (W0 dy) G P := by
  have hjN := ((hF.2.2.2.2.2.1 j).mp hj).1
  have hn := hC.1
  have ob := (hC.2.2.2.1 j hjN).ob c
  have hp := (hI.2.2.1 j hjN).1
  obtain ⟨⟨e12, e13⟩, e14, e15⟩ := (hC.known hjN).2 c
  have b := hC.cell hjN
  have e2 : g (g 3 j).toNat 2 = a 63 j := (hC.2.2.2.1 j hjN).2.1.2.2
  have k : ∀ q, (q < 6 ∨ 10 ≤ q) → G (g 3 j).toNat q = g (g 3 j).toNat q := fun q hq => hF.1 _ q (by omega) (by omega) (Or.inr hq)
  obtain ⟨-, rb⟩ := rod_k hI hjN c
  refine wX6_lean hn ⟨ob, ?_⟩
  rw [k 14 (by omega), e14]
  refine cs_loadOf hC hI hF hj ⟨hp.2.2.2.1.1, hp.2.2.2.1.2.1, fun z => (hp.2.2.2.1.2.2 z).1⟩ (bX6_lean_10 hn ⟨ob, ?_⟩)
  rw [k 15 (by omega), k 12 (by omega), e15, e12]
  refine cs_loadOf hC hI hF hj ⟨hp.2.2.2.2.1, hp.2.2.2.2.2.1, fun z => (hp.2.2.2.2.2.2 z).1⟩ (bX6_lean_23 hn ⟨ob, ?_⟩)
  rw [k 13 (by omega), k 12 (by omega), k 2 (by omega), e13, e12, e2]
  exact ⟨⟨by omega, by omega⟩, h⟩
def opBears (a : Hp) (x1 : Int) : Int × Hp := if x1 < 0 ∨ a 53 5 ≤ x1 then (-1, up2 a 53 0 2) else (ld a (a 63) x1.toNat, a)
theorem cs_bears {x1 : Int} (hC : Ca n dy g a) (hI : Inv a) (h1 : i3 x1) (h : ∀ v a' g', opBears (up2 a 53 0 0) x1 = (v, a') → Ca n dy g' a' → Kr g g' → P (some (L_ v)) n (W0 dy) g') : Runs miX11_bears (d + 3) [.ref 1, I_ x1] n (W0 dy) g P := by
  have hn := hC.1
  refine wX11_bears hn (cs_partAt hC hI h1 ⟨fun c => ?_, fun c1 c2 => ?_⟩)
  · refine bX11_bears_5 hn ⟨fun q => absurd q (Nat.lt_irrefl 0), fun _ => wX11_none hn ⟨by decide, bX11_bears_15 hn ⟨by decide, h _ _ _ ?_ (hC.st2 0 2) ((Kr.refl g).up (by omega))⟩⟩⟩
    unfold opBears; exact if_pos c
  · obtain ⟨k, rfl⟩ := exN c1
    have hk : (k : Int) < a 53 5 := c2
    have hb := hC.cell hk
    show V miX11_bears (d + 3) 5 [(0, .ref 1), (1, I_ (k : Int))] [.ref (g 3 k).toNat] n (W0 dy) g 0 0 P
    refine bX11_bears_5 hn ⟨fun _ => cs_gather hC hI hk fun G l hF => ?_, fun q => by omega⟩
    have hkl : k ∈ l := List.mem_of_getElem? hF.2.2.2.2.1
    refine bX11_bears_25 hn ⟨(hC.2.2.2.1 k hk).pt (hI.2.2.1 k hk).2, h _ _ _ ?_ ((hF.ca hC).st 0) (hF.kr.up (by omega))⟩
    rw [(hF.2.2.2.2.2.2 k hkl).2.2.1]
    unfold opBears
    exact if_neg (by show ¬ ((k : Int) < 0 ∨ a 53 5 ≤ (k : Int)); omega)
def opTilts (a : Hp) (x1 : Int) : Int × Hp := if 0 < rodI a x1 then (-1, up2 a 53 0 (rodI a x1)) else (if len a x1.toNat = 0 then 0 else if 0 < len a x1.toNat then 1 else 2, a)
theorem cs_tilts {x1 : Int} (hC : Ca n dy g a) (hI : Inv a) (h1 : i3 x1) (h : ∀ v a' g', opTilts (up2 a 53 0 0) x1 = (v, a') → Ca n dy g' a' → Kr g g' → P (some (I_ v)) n (W0 dy) g') : Runs miX11_tilts (d + 3) [.ref 1, I_ x1] n (W0 dy) g P := by
  have hn := hC.1
  refine wX11_tilts hn (cs_rodGiven hC hI h1 ⟨fun c => ?_, fun c => ?_⟩)
  · refine bX11_tilts_5 hn ⟨fun q => absurd q (Nat.lt_irrefl 0), fun _ => h _ _ _ ?_ (hC.st2 0 _) ((Kr.refl g).up (by omega))⟩
    unfold opTilts; exact if_pos c
  · have cc : (0 ≤ x1 ∧ x1 < a 53 5) ∧ (a 57 x1.toNat = 2 ∨ a 57 x1.toNat = 3) := by
      unfold rodI at c
      split at c
      · omega
      · split at c
        · exact ⟨by omega, by assumption⟩
        · omega
    obtain ⟨k, rfl⟩ := exN cc.1.1
    have hk : (k : Int) < a 53 5 := cc.1.2
    have hr : a 57 k = 2 ∨ a 57 k = 3 := cc.2
    have hC0 := hC.st 0
    have hI0 : Inv (up2 a 53 0 0) := hI
    have hb := hC.cell hk
    have eop : opTilts (up2 a 53 0 0) (k : Int) = (if len (up2 a 53 0 0) k = 0 then 0 else if 0 < len (up2 a 53 0 0) k then 1 else 2, up2 a 53 0 0) := by
      unfold opTilts; exact if_neg (by rw [show rodI (up2 a 53 0 0) (k : Int) = rodI a (k : Int) from rfl, c]; omega)
    rw [eop] at h
    show V miX11_tilts (d + 3) 5 [(0, .ref 1), (1, I_ (k : Int))] [.ref (up2 g 1 3 0 3 k).toNat] n (W0 dy) (up2 g 1 3 0) 0 0 P
    refine bX11_tilts_5 hn ⟨fun _ => cs_gather hC0 hI0 hk fun G l hF => ?_, fun q => absurd (show (g 3 k).toNat = 0 from q) (by omega)⟩
    have hkl : k ∈ l := List.mem_of_getElem? hF.2.2.2.2.1
    have lb := len_b hI0 (k := k) hk hr
    have hCG := hF.ca hC0
    have hKG : Kr g G := ((Kr.refl g).up (by omega)).trans hF.kr
    refine bX11_tilts_20 hn ⟨(hC0.2.2.2.1 k hk).ob hr, cs_lean hC0 hI0 hF hkl hr (bX11_tilts_24 hn ⟨lb, fun q => ⟨fun q2 => ?_, fun q2 => ?_⟩, fun q => ?_⟩)⟩
    · exact h _ _ _ (by rw [if_neg q, if_neg (by omega)]) hCG hKG
    · exact h _ _ _ (by rw [if_neg q, if_pos q2]) hCG hKG
    · exact h _ _ _ (by rw [if_pos q]) hCG hKG
end Bears
