/-! SHAPES OF THE REFERENCE -/
def lvS (a g : Hp) : Prop := ∀ i q, i ≠ 86 → i ≠ 87 → i ≠ 90 → i ≠ 91 → i ≠ 92 → i ≠ 93 → ¬ (i = 53 ∧ q = 41) → g i q = a i q
/-- a part of a shape: a rod that weighs nothing, with whole arms -/
def OKp (a : Hp) (k : Nat) : Prop := (a 57 k = 2 ∨ a 57 k = 3) ∧ a 58 k = 0 ∧ (a 59 k * a 64 k).tmod (a 65 k) = 0
def nE (a : Hp) (k : Nat) : Int := (if a 66 k < 0 then 1 else 0) + (if a 67 k < 0 then 1 else 0)
def neS (a : Hp) (c : Int) : Int := if c < 0 then 1 else ld a (nE a) c.toNat
/-- the class goes on at c, with whole numbers -/
def ExF (a : Hp) (all T L c : Int) : Prop := 0 < T ∧ T ≤ L ∧ Int.gcd T L = 1 ∧ L ∣ all * T ∧ ∃ f, whS a f c (all * T / L)
section Shapes
variable {d n : Nat} {dy : Nat → Shp} {a g : Hp} {P : Pst} {all : Int} {dp : Nat → Nat}
theorem lvS.up {a g : Hp} (h : lvS a g) {i k : Nat} {x : Int} (hi : i = 86 ∨ i = 87 ∨ i = 90 ∨ i = 91 ∨ i = 92 ∨ i = 93 ∨ (i = 53 ∧ k = 41)) : lvS a (up2 g i k x) := fun j q h1 h2 h3 h4 h5 h6 h7 => by
  rw [show up2 g i k x j q = g j q from if_neg (fun z => by omega)]
  exact h j q h1 h2 h3 h4 h5 h6 h7
theorem neS_eq (hI : Inv a) {k : Nat} (hN : (k : Int) < a 53 5) : neS a (k : Int) = neS a (a 66 k) + neS a (a 67 k) := by
  have := ld_eq (v := nE a) hI (k := k) hN
  have e : neS a (k : Int) = ld a (nE a) k := if_neg (by omega)
  rw [e, this]
  have en : nE a k = (if a 66 k < 0 then 1 else 0) + (if a 67 k < 0 then 1 else 0) := rfl
  rw [en]
  unfold neS sd
  by_cases c0 : a 66 k < 0
  · by_cases c1 : a 67 k < 0
    · rw [if_pos c0, if_pos c1, if_pos c0, if_pos c1, if_neg (by omega), if_neg (by omega)]; omega
    · rw [if_pos c0, if_neg c1, if_pos c0, if_neg c1, if_neg (by omega), if_pos (by omega)]; omega
  · by_cases c1 : a 67 k < 0
    · rw [if_neg c0, if_pos c1, if_neg c0, if_pos c1, if_pos (by omega), if_neg (by omega)]; omega
    · rw [if_neg c0, if_neg c1, if_neg c0, if_neg c1, if_pos (by omega), if_pos (by omega)]; omega
theorem neS_nn (hI : Inv a) (c : Int) : 0 ≤ neS a c := by
  unfold neS
  split
  · decide
  · refine ldx_nn hI (fun y _ => ?_) _
    unfold nE
    split <;> split <;> decide
theorem ar_b (hI : Inv a) {k : Nat} (hN : (k : Int) < a 53 5) (hK : OKp a k) : (2 ≤ a 59 k ∧ a 59 k ≤ 1000) ∧ (1 ≤ arL a k ∧ arL a k < a 59 k) ∧ (1 ≤ arR a k ∧ arR a k < a 59 k) := by
  obtain ⟨h1, ⟨h2, h3, h4⟩, _, ⟨h5, h6⟩, _⟩ := rod_b hI hN hK.1
  have hd := Int.dvd_of_tmod_eq_zero hK.2.2
  have e := Int.tdiv_mul_cancel hd
  have hp : 0 < a 59 k * a 64 k := Int.mul_pos (by omega) (by omega)
  have e' : arL a k * a 65 k = a 59 k * a 64 k := e
  have : arL a k ≠ 0 := fun z => by rw [z, Int.zero_mul] at e'; omega
  have q1 : 0 ≤ arL a k := h5
  have q2 : arL a k < a 59 k := h6
  unfold arR
  omega
theorem ExF_kid (h0 : 0 < all) (ha : all ≤ 10000000) (hI : Inv a) {k : Nat} (hN : (k : Int) < a 53 5) (hK : OKp a k) {T L T0 L0 T1 L1 : Int} (h : ExF a all T L (k : Int)) (r0 : Rl T L (arR a k) (a 59 k) T0 L0) (r1 : Rl T L (arL a k) (a 59 k) T1 L1) : ExF a all T0 L0 (a 66 k) ∧ ExF a all T1 L1 (a 67 k) := by
  obtain ⟨hlen, har, harR⟩ := ar_b hI hN hK
  obtain ⟨a1, a2, a3, a4, f, hw⟩ := h
  have hL := (dvd_okE h0 ha a1 a2 a3 a4).1
  have hm : L * a 59 k ≤ 10000000 * 1000 := Int.mul_le_mul (by omega) hlen.2 (by omega) (by omega)
  cases f with
  | zero => exact absurd (show (k : Int) < 0 from hw) (by omega)
  | succ f =>
    have hw' : a 59 k ∣ all * T / L * arR a k ∧ whS a f (a 66 k) (all * T / L * arR a k / a 59 k) ∧ whS a f (a 67 k) (all * T / L - all * T / L * arR a k / a 59 k) := (hw : (k : Int) < 0 ∨ _).resolve_left (by omega)
    obtain ⟨w1, w2, w3⟩ := hw'
    have hsum : arR a k + arL a k = a 59 k := by unfold arR; omega
    obtain ⟨c0, hc0, e1, e2, g0, p1, p2, p3⟩ := sh_ex a1 a2 harR (by omega) r0
    obtain ⟨c1, hc1, e3, e4, g1, p4, p5, p6⟩ := sh_ex a1 a2 har (by omega) r1
    obtain ⟨z1, z2, z3, z4, z5⟩ := sh_fin (c0 := c0) (c1 := c1) hlen.1 hsum hc0 hc1 (by omega) e1 e2 e3 e4 (by omega) (by omega) a4 (Or.inr (Or.inr w1))
    rw [← z4] at w2
    rw [← z5] at w3
    exact ⟨⟨p1, p2, g0, z2, f, w2⟩, ⟨p4, p5, g1, z3, f, w3⟩⟩
/-- no fraction of a level shape is too small -/
theorem ExF_big (h0 : 0 < all) (ha : all ≤ 10000000) {T L c : Int} (h : ExF a all T L c) : ¬ bm6 (10000000 * T) < L := by
  obtain ⟨a1, a2, a3, a4, _⟩ := h
  have hL := (dvd_okE h0 ha a1 a2 a3 a4).1
  rw [bm6_id ⟨by omega, by omega⟩]
  omega
theorem arI (k : Nat) (e : Int) : armI a k e = if e = 0 then arL a k else arR a k := rfl
theorem sh_end {k m E : Nat} {e : Int} {x1 : Int} (hn : 100 ≤ n) (hI : Inv a) (hN : (k : Int) < a 53 5) (hK : OKp a k) (he : e = 0 ∨ e = 1) (hl : lvS a g) (h41 : g 53 41 = (E : Int)) (hE : E < 8) (hm : m < 200) (h90 : g 90 m = (k : Int)) (h91 : g 91 m = e) (ho : od (g 86 k) (g 87 k))
    (h : ∀ T' L' : Int, Rl (g 86 k) (g 87 k) (armI a k (1 - e)) (a 59 k) T' L' → ∀ g' : Hp, lvS a g' → g' 53 41 = ((E + 1 : Nat) : Int) → (∀ i q, (i = 86 ∨ i = 87 ∨ i = 90 ∨ i = 91) → g' i q = g i q) → (∀ i, i < E → g' 92 i = g 92 i ∧ g' 93 i = g 93 i) → g' 92 E = T' → g' 93 E = L' → V miX12_shapes (d + 2) 35 [(0, .ref 53), (1, I_ x1), (2, I_ (m : Int))] [] n (W0 dy) g' 0 0 P) :
    V miX12_shapes (d + 2) 35 [(0, .ref 53), (1, I_ x1), (2, I_ ((m + 1 : Nat) : Int))] [] n (W0 dy) g 0 0 P := by
  obtain ⟨hlen, har, harR⟩ := ar_b hI hN hK
  have hN6 := hI.1.2
  have em : (((m + 1 : Nat) : Int) + (-1)) = (m : Int) := by omega
  have fr : ∀ i q, (i = 59 ∨ i = 64 ∨ i = 65) → g i q = a i q := fun i q hi => hl i q (by omega) (by omega) (by omega) (by omega) (by omega) (by omega) (by omega)
  refine bX12_shapes_35 hn ⟨⟨by omega, by omega⟩, fun q => by omega, fun _ => ?_⟩
  rw [em]
  simp only [Int.toNat_natCast, h90, h91]
  refine ⟨by omega, fun q => by omega, fun _ => ⟨fun _ => ⟨⟨by omega, by omega⟩, ?_⟩, fun q => by omega⟩⟩
  show Runs miX12_arm (d + 1) [.ref 53, I_ (k : Int), I_ (1 - e)] n (W0 dy) g (fun v n' S' g' => V miX12_shapes (d + 1 + 1) 97 [(0, .ref 53), (1, I_ x1), (2, I_ (m : Int)), (3, I_ (k : Int))] (v.toList ++ [L_ (g 86 k), I_ (g 53 41), .ref 92]) n' S' g' 0 0 P)
  refine spX12_arm hn hI hN hK.1 ⟨by omega, by omega⟩ (fr 59 k (by omega)) (fr 64 k (by omega)) (fr 65 k (by omega)) ?_
  have hA : 1 ≤ armI a k (1 - e) ∧ armI a k (1 - e) ≤ 1000 := by
    rw [arI]; split <;> omega
  generalize armI a k (1 - e) = A at h hA
  rw [h41]
  show V miX12_shapes (d + 1 + 1) 97 [(0, .ref 53), (1, I_ x1), (2, I_ (m : Int)), (3, I_ (k : Int))] [I_ A, L_ (g 86 k), I_ (E : Int), .ref 92] n (W0 dy) g 0 0 P
  refine bX12_shapes_97w hn ⟨⟨by omega, by omega⟩, ⟨by omega, by omega⟩, bm6_r _, ⟨by omega, by omega⟩, fun y ey => ?_⟩
  rw [h41]
  refine ⟨⟨by omega, by omega⟩, by rw [ey]; exact bm6_r _, ?_⟩
  show Runs miX12_common (d + 1) [L_ ((up2 g 92 E (bm6 (g 86 k * A))) 92 E), L_ ((up2 (up2 g 92 E (bm6 (g 86 k * A))) 93 E y) 93 E)] n (W0 dy) (up2 (up2 g 92 E (bm6 (g 86 k * A))) 93 E y) _
  rw [up2_k, if_pos rfl, up2_k, if_pos rfl]
  have ey' : y = bm6 (g 87 k * a 59 k) := by
    rw [ey]
    show bm6 (g 87 k * g 59 k) = _
    rw [fr 59 k (by omega)]
  refine spX12_commonW hn (bm6_r _) (by rw [ey']; exact bm6_r _) fun c hc hcg hcp => ?_
  rw [ey'] at hcg hcp
  have hne := Rl_ne ho hA (B := a 59 k) ⟨by omega, by omega⟩
  have hc0 : c ≠ 0 := fun z => by rw [z] at hcg; exact hne hcg.symm
  have f41 : (up2 (up2 g 92 E (bm6 (g 86 k * A))) 93 E y) 53 41 = (E : Int) := by
    rw [up2_i (by decide), up2_i (by decide)]; exact h41
  show V miX12_shapes (d + 1 + 1) 144 [(0, .ref 53), (1, I_ x1), (2, I_ (m : Int)), (3, I_ (k : Int))] [L_ c] n (W0 dy) (up2 (up2 g 92 E (bm6 (g 86 k * A))) 93 E y) 0 0 P
  refine bX12_shapes_144w hn ?_
  rw [f41]
  refine ⟨⟨by omega, by omega⟩, hc, hc0, fun y8 e8 => ⟨by rw [e8]; exact bm6_r _, hc0, fun y15 e15 => ⟨by rw [e15]; exact bm6_r _, ⟨by omega, by omega⟩, ?_⟩⟩⟩
  have e8' : y8 = bm6 ((bm6 (g 86 k * A)).tdiv c) := by
    rw [e8]
    show bm6 ((up2 (up2 g 92 E (bm6 (g 86 k * A))) 93 E y 92 E).tdiv c) = _
    rw [up2_i (by decide), up2_k, if_pos rfl]
  have e15' : y15 = bm6 ((bm6 (g 87 k * a 59 k)).tdiv c) := by
    rw [e15]
    show bm6 ((up2 (up2 g 92 E (bm6 (g 86 k * A))) 93 E y 93 E).tdiv c) = _
    rw [up2_k, if_pos rfl, ey']
  refine h y8 y15 ⟨c, hc0, hc, hcg, fun q1 q2 => by have := hcp q1 q2; omega, e8', e15'⟩ _ ?_ ?_ ?_ ?_ ?_ ?_
  · exact ((((hl.up (by omega)).up (by omega)).up (by omega)).up (by omega)).up (by omega)
  · rw [up2_k, if_pos rfl]; omega
  · intro i q hi
    rw [up2_i (by omega), up2_i (by omega), up2_i (by omega), up2_i (by omega), up2_i (by omega)]
  · intro i hi
    show up2 (up2 (up2 (up2 (up2 g 92 E _) 93 E _) 92 E y8) 93 E y15) 53 41 _ 92 i = _ ∧ up2 (up2 (up2 (up2 (up2 g 92 E _) 93 E _) 92 E y8) 93 E y15) 53 41 _ 93 i = _
    constructor
    · rw [up2_i (by decide), up2_i (by decide), up2_k, if_neg (by omega), up2_i (by decide), up2_k, if_neg (by omega)]
    · rw [up2_i (by decide), up2_k, if_neg (by omega), up2_i (by decide), up2_k, if_neg (by omega), up2_i (by decide)]
  · show up2 (up2 (up2 (up2 (up2 g 92 E _) 93 E _) 92 E y8) 93 E y15) 53 41 _ 92 E = _
    rw [up2_i (by decide), up2_i (by decide), up2_k, if_pos rfl]
  · show up2 (up2 (up2 (up2 (up2 g 92 E _) 93 E _) 92 E y8) 93 E y15) 53 41 _ 93 E = _
    rw [up2_i (by decide), up2_k, if_pos rfl]
/-- a side is laid on the walk -/
theorem sh_push {k m : Nat} {e c : Int} {x1 : Int} (hn : 100 ≤ n) (hI : Inv a) (hN : (k : Int) < a 53 5) (hK : OKp a k) (he : e = 0 ∨ e = 1) (hl : lvS a g) (hm : m < 200) (hc : c = if e = 0 then a 66 k else a 67 k) (hcN : c < a 53 5) (ho : od (g 86 k) (g 87 k))
    (h1 : c < 0 → V miX12_shapes (d + 2) 218 [(0, .ref 53), (1, I_ x1), (2, I_ ((m + 1 : Nat) : Int)), (3, I_ (k : Int)), (4, I_ (e + (-1)))] [] n (W0 dy) (up2 (up2 g 90 m (k : Int)) 91 m e) 0 0 P)
    (h2 : 0 ≤ c → ∀ T' L' : Int, Rl (g 86 k) (g 87 k) (armI a k (1 - e)) (a 59 k) T' L' → ∀ g' : Hp, lvS a g' → g' 53 41 = g 53 41 → (∀ q, q ≠ m → g' 90 q = g 90 q ∧ g' 91 q = g 91 q) → g' 90 m = c → g' 91 m = -1 → (∀ q, q ≠ c.toNat → g' 86 q = g 86 q ∧ g' 87 q = g 87 q) → g' 86 c.toNat = T' → g' 87 c.toNat = L' → (∀ q, g' 92 q = g 92 q ∧ g' 93 q = g 93 q) →
      (bm6 (10000000 * T') < L' → ∀ Q : Pst, (∀ x g'', P (some (I_ x)) n (W0 dy) g'' → Q (some (I_ x)) n (W0 dy) g'') → Runs miX12_shapesOn (d + 1) [.ref 53, I_ x1] n (W0 dy) g' Q) ∧
      (V miX12_shapes (d + 2) 218 [(0, .ref 53), (1, I_ x1), (2, I_ ((m + 1 : Nat) : Int)), (3, I_ (k : Int)), (4, I_ (e + (-1)))] [] n (W0 dy) g' 0 0 P)) :
    V miX12_shapes (d + 2) 218 [(0, .ref 53), (1, I_ x1), (2, I_ (m : Int)), (3, I_ (k : Int)), (4, I_ e)] [] n (W0 dy) g 0 0 P := by
  obtain ⟨hlen, har, harR⟩ := ar_b hI hN hK
  have hN6 := hI.1.2
  have fr : ∀ i q, (i = 59 ∨ i = 64 ∨ i = 65 ∨ i = 66 ∨ i = 67) → g i q = a i q := fun i q hi => hl i q (by omega) (by omega) (by omega) (by omega) (by omega) (by omega) (by omega)
  have em : (m : Int) + 1 = ((m + 1 : Nat) : Int) := by omega
  have big : 0 ≤ c → Runs miX12_arm (d + 1) [.ref 53, I_ (k : Int), I_ (1 - e)] n (W0 dy) (up2 (up2 g 90 m c) 91 m (-1)) (fun v n' S' g' => V miX12_shapes (d + 1 + 1) 311 [(0, .ref 53), (1, I_ x1), (2, I_ ((m : Int) + 1)), (3, I_ (k : Int)), (4, I_ e), (5, I_ c)] (v.toList ++ [L_ (g 86 k), I_ c, .ref 86]) n' S' g' 0 0 P) := fun hc0 => by
    have fr2 : ∀ i q, i ≠ 90 → i ≠ 91 → up2 (up2 g 90 m c) 91 m (-1) i q = g i q := fun i q q1 q2 => by rw [up2_i q2, up2_i q1]
    refine spX12_arm hn hI hN hK.1 ⟨by omega, by omega⟩ ((fr2 59 k (by decide) (by decide)).trans (fr 59 k (by omega))) ((fr2 64 k (by decide) (by decide)).trans (fr 64 k (by omega))) ((fr2 65 k (by decide) (by decide)).trans (fr 65 k (by omega))) ?_
    have hA : 1 ≤ armI a k (1 - e) ∧ armI a k (1 - e) ≤ 1000 := by
      rw [arI]; split <;> omega
    generalize armI a k (1 - e) = A at h2 hA
    have hl2 : lvS a (up2 (up2 g 90 m c) 91 m (-1)) := (hl.up (by omega)).up (by omega)
    have e86 : ∀ q, up2 (up2 g 90 m c) 91 m (-1) 86 q = g 86 q := fun q => fr2 86 q (by decide) (by decide)
    have e87 : ∀ q, up2 (up2 g 90 m c) 91 m (-1) 87 q = g 87 q := fun q => fr2 87 q (by decide) (by decide)
    have e59 : up2 (up2 g 90 m c) 91 m (-1) 59 k = a 59 k := (fr2 59 k (by decide) (by decide)).trans (fr 59 k (by omega))
    have e92 : ∀ q, up2 (up2 g 90 m c) 91 m (-1) 92 q = g 92 q ∧ up2 (up2 g 90 m c) 91 m (-1) 93 q = g 93 q := fun q => ⟨fr2 92 q (by decide) (by decide), fr2 93 q (by decide) (by decide)⟩
    have e41 : up2 (up2 g 90 m c) 91 m (-1) 53 41 = g 53 41 := fr2 53 41 (by decide) (by decide)
    have e90 : ∀ q, q ≠ m → up2 (up2 g 90 m c) 91 m (-1) 90 q = g 90 q ∧ up2 (up2 g 90 m c) 91 m (-1) 91 q = g 91 q := fun q hq => ⟨by rw [up2_i (by decide), up2_k, if_neg hq], by rw [up2_k, if_neg hq, up2_i (by decide)]⟩
    have e90m : up2 (up2 g 90 m c) 91 m (-1) 90 m = c := by rw [up2_i (by decide), up2_k, if_pos rfl]
    have e91m : up2 (up2 g 90 m c) 91 m (-1) 91 m = -1 := by rw [up2_k, if_pos rfl]
    generalize up2 (up2 g 90 m c) 91 m (-1) = G at *
    show V miX12_shapes (d + 1 + 1) 311 [(0, .ref 53), (1, I_ x1), (2, I_ ((m : Int) + 1)), (3, I_ (k : Int)), (4, I_ e), (5, I_ c)] [I_ A, L_ (g 86 k), I_ c, .ref 86] n (W0 dy) G 0 0 P
    obtain ⟨cc, rfl⟩ := Int.eq_ofNat_of_zero_le hc0
    refine bX12_shapes_311w hn ⟨⟨by omega, by omega⟩, ⟨by omega, by omega⟩, bm6_r _, ⟨by omega, by omega⟩, fun y ey => ⟨⟨by omega, by omega⟩, by rw [ey]; exact bm6_r _, ?_⟩⟩
    show Runs miX12_common (d + 1) [L_ ((up2 G 86 cc (bm6 (g 86 k * A))) 86 cc), L_ ((up2 (up2 G 86 cc (bm6 (g 86 k * A))) 87 cc y) 87 cc)] n (W0 dy) (up2 (up2 G 86 cc (bm6 (g 86 k * A))) 87 cc y) _
    rw [up2_k, if_pos rfl, up2_k, if_pos rfl]
    have ey' : y = bm6 (g 87 k * a 59 k) := by
      rw [ey]
      show bm6 (G 87 k * G 59 k) = _
      rw [e87, e59]
    refine spX12_commonW hn (bm6_r _) (by rw [ey']; exact bm6_r _) fun x hx hxg hxp => ?_
    rw [ey'] at hxg hxp
    have hne := Rl_ne ho hA (B := a 59 k) ⟨by omega, by omega⟩
    have hx0 : x ≠ 0 := fun z => by rw [z] at hxg; exact hne hxg.symm
    have f86 : (up2 (up2 G 86 cc (bm6 (g 86 k * A))) 87 cc y) 86 cc = bm6 (g 86 k * A) := by rw [up2_i (by decide), up2_k, if_pos rfl]
    have f87 : (up2 (up2 G 86 cc (bm6 (g 86 k * A))) 87 cc y) 87 cc = bm6 (g 87 k * a 59 k) := by rw [up2_k, if_pos rfl, ey']
    have q86 : ∀ q, q ≠ cc → (up2 (up2 G 86 cc (bm6 (g 86 k * A))) 87 cc y) 86 q = g 86 q ∧ (up2 (up2 G 86 cc (bm6 (g 86 k * A))) 87 cc y) 87 q = g 87 q := fun q hq => ⟨by rw [up2_i (by decide), up2_k, if_neg hq, e86], by rw [up2_k, if_neg hq, up2_i (by decide), e87]⟩
    have oth : ∀ i q, i ≠ 86 → i ≠ 87 → (up2 (up2 G 86 cc (bm6 (g 86 k * A))) 87 cc y) i q = G i q := fun i q q1 q2 => by rw [up2_i q2, up2_i q1]
    have hl3 : lvS a (up2 (up2 G 86 cc (bm6 (g 86 k * A))) 87 cc y) := (hl2.up (by omega)).up (by omega)
    generalize up2 (up2 G 86 cc (bm6 (g 86 k * A))) 87 cc y = H at *
    show V miX12_shapes (d + 1 + 1) 352 [(0, .ref 53), (1, I_ x1), (2, I_ ((m : Int) + 1)), (3, I_ (k : Int)), (4, I_ e), (5, I_ (cc : Int))] [L_ x] n (W0 dy) H 0 0 P
    have hf := h2 hc0 (bm6 ((bm6 (g 86 k * A)).tdiv x)) (bm6 ((bm6 (g 87 k * a 59 k)).tdiv x)) ⟨x, hx0, hx, hxg, fun q1 q2 => by have := hxp q1 q2; omega, rfl, rfl⟩ (up2 (up2 H 86 cc (bm6 ((bm6 (g 86 k * A)).tdiv x))) 87 cc (bm6 ((bm6 (g 87 k * a 59 k)).tdiv x))) ((hl3.up (by omega)).up (by omega))
      (by rw [up2_i (by decide), up2_i (by decide), oth 53 41 (by decide) (by decide), e41])
      (fun q hq => ⟨by rw [up2_i (by decide), up2_i (by decide), oth 90 q (by decide) (by decide), (e90 q hq).1], by rw [up2_i (by decide), up2_i (by decide), oth 91 q (by decide) (by decide), (e90 q hq).2]⟩)
      (by rw [up2_i (by decide), up2_i (by decide), oth 90 m (by decide) (by decide), e90m])
      (by rw [up2_i (by decide), up2_i (by decide), oth 91 m (by decide) (by decide), e91m])
      (fun q hq => ⟨by rw [up2_i (by decide), up2_k, if_neg (show ¬ q = cc from hq)]; exact (q86 q hq).1, by rw [up2_k, if_neg (show ¬ q = cc from hq), up2_i (by decide)]; exact (q86 q hq).2⟩)
      (by show up2 (up2 H 86 cc _) 87 cc _ 86 cc = _; rw [up2_i (by decide), up2_k, if_pos rfl])
      (by show up2 (up2 H 86 cc _) 87 cc _ 87 cc = _; rw [up2_k, if_pos rfl])
      (fun q => ⟨by rw [up2_i (by decide), up2_i (by decide), oth 92 q (by decide) (by decide), (e92 q).1], by rw [up2_i (by decide), up2_i (by decide), oth 93 q (by decide) (by decide), (e92 q).2]⟩)
    refine bX12_shapes_352w hn ⟨⟨by omega, by omega⟩, hx, hx0, fun y1 ey1 => ⟨by rw [ey1]; exact bm6_r _, hx0, fun y2 ey2 => ⟨by rw [ey2]; exact bm6_r _, fun y3 ey3 => ⟨by rw [ey3]; exact bm6_r _, fun q => ?_, fun q => ?_⟩⟩⟩⟩
    · have e1 : y1 = bm6 ((bm6 (g 86 k * A)).tdiv x) := by rw [ey1]; show bm6 ((H 86 cc).tdiv x) = _; rw [f86]
      have e2 : y2 = bm6 ((bm6 (g 87 k * a 59 k)).tdiv x) := by rw [ey2]; show bm6 ((H 87 cc).tdiv x) = _; rw [f87]
      rw [em, e1, e2]; exact hf.2
    · have e1 : y1 = bm6 ((bm6 (g 86 k * A)).tdiv x) := by rw [ey1]; show bm6 ((H 86 cc).tdiv x) = _; rw [f86]
      have e2 : y2 = bm6 ((bm6 (g 87 k * a 59 k)).tdiv x) := by rw [ey2]; show bm6 ((H 87 cc).tdiv x) = _; rw [f87]
      have e3 : y3 = bm6 (10000000 * y1) := by rw [ey3]; show bm6 (10000000 * (up2 H 86 cc y1 86 cc)) = _; rw [up2_k, if_pos rfl]
      have q' : y3 < y2 := by
        have q2 : y3 < up2 (up2 H 86 cc y1) 87 cc y2 87 cc := q
        rw [up2_k, if_pos rfl] at q2
        exact q2
      rw [e3, e1, e2] at q'
      rw [em, e1, e2]
      exact hf.1 q' _ fun x g'' hP => bX12_shapes_405 hn hP
  rcases he with e0 | e0
  · subst e0
    rw [if_pos rfl] at hc
    have ec : g 66 k = c := (fr 66 k (by omega)).trans hc.symm
    refine bX12_shapes_218 hn ⟨⟨by omega, by omega⟩, fun q => by omega, fun _ => ⟨fun q => absurd rfl q, fun _ => ?_⟩⟩
    simp only [Int.toNat_natCast, ec]
    refine ⟨⟨by omega, by omega⟩, fun q0 => ⟨⟨by omega, by omega⟩, fun _ => ⟨fun _ => ?_, fun z => by omega⟩, fun z => by omega⟩, fun q0 => ⟨⟨by omega, by omega⟩, fun z => by omega, fun _ => ⟨fun z => by omega, fun _ => ?_⟩⟩⟩
    · exact big q0
    · rw [em]; exact h1 q0
  · subst e0
    rw [if_neg (by decide)] at hc
    have ec : g 67 k = c := (fr 67 k (by omega)).trans hc.symm
    refine bX12_shapes_218 hn ⟨⟨by omega, by omega⟩, fun q => by omega, fun _ => ⟨fun _ => ?_, fun q => absurd q (by decide)⟩⟩
    simp only [Int.toNat_natCast, ec]
    refine ⟨⟨by omega, by omega⟩, fun q0 => ⟨⟨by omega, by omega⟩, fun _ => ⟨fun _ => ?_, fun z => by omega⟩, fun z => by omega⟩, fun q0 => ⟨⟨by omega, by omega⟩, fun z => by omega, fun _ => ⟨fun z => by omega, fun _ => ?_⟩⟩⟩
    · exact big q0
    · rw [em]; exact h1 q0
end Shapes
