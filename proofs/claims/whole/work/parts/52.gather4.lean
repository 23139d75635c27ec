/-! GATHERING: the loads -/
def pos : List Nat → Nat → Nat
  | [], _ => 0
  | z :: l, y => if z = y then 0 else pos l y + 1
theorem pos_of : ∀ {l : List Nat} {m y : Nat}, l.Nodup → l[m]? = some y → pos l y = m
  | [], m, y, _, h => by simp at h
  | z :: l, 0, y, _, h => by
    have e : z = y := by simpa using h
    exact if_pos e
  | z :: l, m + 1, y, hd, h => by
    have h' : l[m]? = some y := by simpa using h
    have hm := List.mem_of_getElem? h'
    have e : z ≠ y := fun e => (List.nodup_cons.mp hd).1 (e ▸ hm)
    show (if z = y then 0 else pos l y + 1) = m + 1
    rw [if_neg e, pos_of (List.nodup_cons.mp hd).2 h']
section Gather4
variable {d n : Nat} {dy : Nat → Shp} {g a : Hp} {P : Pst}
def v9 (a : Hp) (y : Nat) : Int := if a 57 y = 1 then a 63 y else 0
theorem own_b (hI : Inv a) {y : Nat} (hy : (y : Int) < a 53 5) : (0 ≤ a 63 y ∧ a 63 y ≤ 16000000) ∧ (0 ≤ v9 a y ∧ v9 a y ≤ 16000000) := by
  have h : 0 ≤ a 63 y ∧ a 63 y ≤ 16000000 := by
    rcases (hI.2.2.1 y hy).2 with z | z | z
    · omega
    · obtain ⟨z1, z2, z3, z4, z5⟩ := z
      have m0 : 0 ≤ a 59 y * a 58 y := Int.mul_nonneg (by omega) (by omega)
      have m1 : a 59 y * a 58 y ≤ 1000 * 1000 := Int.mul_le_mul z2.2 z3.2 z3.1 (by omega)
      omega
    · omega
  refine ⟨h, ?_⟩
  unfold v9
  split <;> omega
/-- what a side has given to its rod, when the members behind place i have given theirs -/
def ps (a : Hp) (v : Nat → Int) (l : List Nat) (i : Nat) (s : Int) : Int := if 0 ≤ s ∧ i < pos l s.toNat then ld a v s.toNat else 0
theorem ps_step {v : Nat → Int} {l : List Nat} {i y : Nat} {s : Int} (hd : l.Nodup) (hi : l[i + 1]? = some y) (hs : 0 ≤ s → s.toNat ∈ l) : ps a v l i s = ps a v l (i + 1) s + (if s = (y : Int) then ld a v y else 0) := by
  unfold ps
  by_cases c : 0 ≤ s
  · obtain ⟨m, hm⟩ := List.getElem?_of_mem (hs c)
    have pm := pos_of hd hm
    by_cases e : s = (y : Int)
    · have es : s.toNat = y := by omega
      have py := pos_of hd hi
      rw [es, py, if_pos ⟨c, by omega⟩, if_neg (by omega), if_pos e]; omega
    · have ne : m ≠ i + 1 := fun z => by
        rw [z, hi] at hm
        have : y = s.toNat := by simpa using hm
        omega
      rw [pm, if_neg e]
      by_cases w : i < m
      · rw [if_pos ⟨c, w⟩, if_pos ⟨c, by omega⟩]; omega
      · rw [if_neg (fun z => w z.2), if_neg (fun z => by omega)]; omega
  · rw [if_neg (fun z => c z.1), if_neg (fun z => c z.1), if_neg (by omega)]; omega
/-- the loads so far -/
def LI (g a G : Hp) (l : List Nat) (i : Nat) : Prop := ∀ j : Nat, j ∈ l → G (g 3 j).toNat 8 = a 63 j + ps a (a 63) l i (a 66 j) + ps a (a 63) l i (a 67 j) ∧ G (g 3 j).toNat 9 = v9 a j + ps a (v9 a) l i (a 66 j) + ps a (v9 a) l i (a 67 j)
theorem ps_b (hI : Inv a) {v : Nat → Int} (hv : ∀ y : Nat, (y : Int) < a 53 5 → 0 ≤ v y ∧ v y ≤ 16000000) (l : List Nat) (i : Nat) (s : Int) : 0 ≤ ps a v l i s ∧ ps a v l i s ≤ 960000000 := by
  have := ld_b hI (B := 16000000) (by decide) hv s.toNat
  unfold ps
  split <;> omega
/-- what the whole of gather() leaves -/
def GF (g a G : Hp) (k0 : Nat) (l : List Nat) : Prop :=
  (∀ i q, i ≠ 4 → i ≠ 5 → (i < 100 ∨ q < 6 ∨ 10 ≤ q) → G i q = g i q) ∧ (G 4 1 = (l.length : Int) ∧ l.length ≤ 60 ∧ l.Nodup) ∧ (∀ (m j : Nat), l[m]? = some j → G 5 m = g 3 j) ∧ (∀ j : Nat, j < 60 → (hb (G 4 2) j ↔ j ∈ l)) ∧ l[0]? = some k0 ∧ (∀ y : Nat, y ∈ l ↔ ((y : Int) < a 53 5 ∧ abv (a 60) k0 60 y = true)) ∧
  ∀ j : Nat, j ∈ l → G (g 3 j).toNat 7 = rh a k0 j ∧ (∀ i : Nat, i < 60 → (hb (G (g 3 j).toNat 6) i ↔ ((i : Int) < a 53 5 ∧ abv (a 60) i 60 j = true ∧ abv (a 60) k0 60 i = true))) ∧ G (g 3 j).toNat 8 = ld a (a 63) j ∧ G (g 3 j).toNat 9 = ld a (v9 a) j
theorem cs_gather {k0 : Nat} (hC : Ca n dy g a) (hI : Inv a) (hk : (k0 : Int) < a 53 5) (h : ∀ (G : Hp) (l : List Nat), GF g a G k0 l → P none n (W0 dy) G) : Runs miX1_gather (d + 2) [.ref 4, .ref (g 3 k0).toNat] n (W0 dy) g P := by
  have hn := hC.1
  have hN := hI.1.2
  obtain ⟨dp, hD⟩ := hI.dp
  refine cs_gather0 hC hI hk fun G0 l hG hB hL => ?_
  have nd := hG.2.1.2.2
  have h41 := hG.2.1.1
  have h60 := hG.2.1.2.1
  have full := CL.full hG hI hB hL
  have mem : ∀ j, j ∈ l → (j : Int) < a 53 5 ∧ abv (a 60) k0 60 j = true := fun j hj => (hG.2.2.2.2 j hj).1
  have kids : ∀ j, j ∈ l → (0 ≤ a 66 j → (a 66 j).toNat ∈ l) ∧ (0 ≤ a 67 j → (a 67 j).toNat ∈ l) := fun j hj => by
    obtain ⟨m, hm⟩ := List.getElem?_of_mem hj
    exact hL m j (List.getElem?_eq_some_iff.mp hm).1 hm
  -- a child lies behind its rod
  have behind : ∀ (m j x : Nat), l[m]? = some j → x ∈ l → a 60 x = (j : Int) → m < pos l x := fun m j x hm hx e => by
    obtain ⟨m2, hm2⟩ := List.getElem?_of_mem hx
    rw [pos_of nd hm2]
    have hjl := List.mem_of_getElem? hm
    by_cases c : m2 = 0
    · rw [c, hB.1] at hm2
      have ex : k0 = x := by simpa using hm2
      have h2 := (hD x (mem x hx).1).2.2.2 (by omega)
      rw [e] at h2
      have h2 : dp x = dp j + 1 := h2
      by_cases e2 : j = k0
      · rw [e2, ex] at h2; omega
      · have := (abv_dp hD hN (dp j) j rfl (mem j hjl).1 (mem j hjl).2 e2).1
        rw [ex] at this; omega
    · obtain ⟨b1, m3, b2, b3, b4⟩ := hB.2 m2 x hm2 (by omega)
      rw [e] at b4
      have := nd_inj nd (show l[m3]? = some j from b4) hm
      omega
  have kid6 : ∀ j, j ∈ l → 0 ≤ a 66 j → a 60 (a 66 j).toNat = (j : Int) ∧ a 61 (a 66 j).toNat = 0 := fun j hj z => (hI.2.2.1 j (mem j hj).1).1.2.2.2.1.2.2 z
  have kid7 : ∀ j, j ∈ l → 0 ≤ a 67 j → a 60 (a 67 j).toNat = (j : Int) ∧ a 61 (a 67 j).toNat = 1 := fun j hj z => (hI.2.2.1 j (mem j hj).1).1.2.2.2.2.2.2 z
  have psd : ∀ (v : Nat → Int) (m j : Nat), l[m]? = some j → ps a v l m (a 66 j) = sd a v (a 66 j) ∧ ps a v l m (a 67 j) = sd a v (a 67 j) := fun v m j hm => by
    have hjl := List.mem_of_getElem? hm
    unfold ps sd
    refine ⟨?_, ?_⟩
    · by_cases c : 0 ≤ a 66 j
      · rw [if_pos ⟨c, behind m j _ hm ((kids j hjl).1 c) (kid6 j hjl c).1⟩, if_pos c]
      · rw [if_neg (fun z => c z.1), if_neg c]
    · by_cases c : 0 ≤ a 67 j
      · rw [if_pos ⟨c, behind m j _ hm ((kids j hjl).2 c) (kid7 j hjl c).1⟩, if_pos c]
      · rw [if_neg (fun z => c z.1), if_neg c]
  have own : ∀ y : Nat, (y : Int) < a 53 5 → 0 ≤ a 63 y ∧ a 63 y ≤ 16000000 := fun y hy => (own_b hI hy).1
  have own9 : ∀ y : Nat, (y : Int) < a 53 5 → 0 ≤ v9 a y ∧ v9 a y ≤ 16000000 := fun y hy => (own_b hI hy).2
  have key : ∀ (i : Nat) (G : Hp), i < l.length → (∀ x q, (x < 100 ∨ (q ≠ 8 ∧ q ≠ 9)) → G x q = G0 x q) → LI g a G l i → V miX1_gather (d + 2) 103 [(0, .ref 4), (1, .ref (g 3 k0).toNat), (2, I_ (i : Int))] [] n (W0 dy) G 0 0 P := by
    intro i
    induction i with
    | zero =>
      intro G hi hF hLI
      refine bX1_gather_103 hn ⟨⟨by omega, by omega⟩, fun _ => ?_, fun q => by omega⟩
      refine h G l ⟨fun x q x4 x5 x6 => ?_, ⟨?_, h60, nd⟩, fun m j hm => ?_, fun j hj => ?_, hB.1, fun y => ⟨fun hy => mem y hy, fun hy => full y hy.1 hy.2⟩, fun j hj => ?_⟩
      · rw [hF x q (by omega)]; exact hG.1 x q x4 x5 x6
      · rw [hF 4 1 (by omega)]; exact h41
      · rw [hF 5 m (by omega)]; exact hG.2.2.1 m j hm
      · rw [hF 4 2 (by omega)]; exact hG.2.2.2.1 j hj
      · obtain ⟨-, g7, g6, -, -⟩ := hG.2.2.2.2 j hj
        obtain ⟨l8, l9⟩ := hLI j hj
        have z0 : ∀ (v : Nat → Int), ps a v l 0 (a 66 j) = sd a v (a 66 j) ∧ ps a v l 0 (a 67 j) = sd a v (a 67 j) := fun v => by
          unfold ps sd
          refine ⟨?_, ?_⟩
          · by_cases c : 0 ≤ a 66 j
            · obtain ⟨m, hm⟩ := List.getElem?_of_mem hj
              have := behind m j _ hm ((kids j hj).1 c) (kid6 j hj c).1
              rw [if_pos ⟨c, by omega⟩, if_pos c]
            · rw [if_neg (fun z => c z.1), if_neg c]
          · by_cases c : 0 ≤ a 67 j
            · obtain ⟨m, hm⟩ := List.getElem?_of_mem hj
              have := behind m j _ hm ((kids j hj).2 c) (kid7 j hj c).1
              rw [if_pos ⟨c, by omega⟩, if_pos c]
            · rw [if_neg (fun z => c z.1), if_neg c]
        refine ⟨by rw [hF _ 7 (by omega)]; exact g7, fun x hx => by rw [hF _ 6 (by omega)]; exact g6 x hx, ?_, ?_⟩
        · rw [l8, (z0 _).1, (z0 _).2, ld_eq hI (mem j hj).1]
        · rw [l9, (z0 _).1, (z0 _).2, ld_eq hI (mem j hj).1]
    | succ i ih =>
      intro G hi hF hLI
      obtain ⟨y, hy⟩ : ∃ y, l[i + 1]? = some y := ⟨l[i + 1], List.getElem?_eq_getElem hi⟩
      have hyl := List.mem_of_getElem? hy
      have hyN := (mem y hyl).1
      obtain ⟨b1, m', b2, b3, b4⟩ := hB.2 (i + 1) y hy (by omega)
      obtain ⟨p, ep⟩ := exN b1
      rw [ep] at b4
      have hpl : p ∈ l := List.mem_of_getElem? b4
      have hpN := (mem p hpl).1
      have cy := hC.cell hyN
      have cp := hC.cell hpN
      have e5 : G 5 (i + 1) = g 3 y := (hF 5 _ (by omega)).trans (hG.2.2.1 _ y hy)
      have e3 : G (g 3 y).toNat 3 = g 3 p := by
        rw [hF _ 3 (by omega), hG.1 _ 3 (by omega) (by omega) (by omega), (hC.known hyN).1.1, ep]
        exact if_neg (by omega)
      have py := (hC.2.2.2.1 _ hyN).pt (hI.2.2.1 _ hyN).2
      have hrod : a 57 p = 2 ∨ a 57 p = 3 := by
        have := ((hI.2.2.1 y hyN).1.2.2.1 b1).2.1
        rw [ep] at this; exact this
      have obp := (hC.2.2.2.1 _ hpN).ob hrod
      have hside := ((hI.2.2.1 y hyN).1.2.2.1 b1).2.2
      rw [ep] at hside
      have hside : (a 61 y = 0 ∧ a 66 p = (y : Int)) ∨ (a 61 y = 1 ∧ a 67 p = (y : Int)) := hside
      obtain ⟨y8, y9⟩ := hLI y hyl
      obtain ⟨p8, p9⟩ := hLI p hpl
      rw [(psd _ _ y hy).1, (psd _ _ y hy).2, ← ld_eq hI hyN] at y8 y9
      have by8 := ld_b hI (B := 16000000) (by decide) own y
      have by9 := ld_b hI (B := 16000000) (by decide) own9 y
      have bp8 := own p hpN
      have bp9 := own9 p hpN
      have q1 := ps_b hI own l (i + 1) (a 66 p)
      have q2 := ps_b hI own l (i + 1) (a 67 p)
      have q3 := ps_b hI own9 l (i + 1) (a 66 p)
      have q4 := ps_b hI own9 l (i + 1) (a 67 p)
      -- exactly one side of exactly one rod is y
      have one : ∀ j, j ∈ l → ∀ v : Nat → Int, ps a v l i (a 66 j) + ps a v l i (a 67 j) = ps a v l (i + 1) (a 66 j) + ps a v l (i + 1) (a 67 j) + (if j = p then ld a v y else 0) := fun j hj v => by
        rw [ps_step nd hy (kids j hj).1, ps_step nd hy (kids j hj).2]
        by_cases ej : j = p
        · subst ej
          rw [if_pos rfl]
          rcases hside with ⟨w1, w2⟩ | ⟨w1, w2⟩
          · rw [if_pos w2, if_neg (fun z => by
              have := (kid7 j hj (by omega)).2
              rw [z] at this
              have : a 61 y = 1 := this
              omega)]; omega
          · rw [if_neg (fun z => by
              have := (kid6 j hj (by omega)).2
              rw [z] at this
              have : a 61 y = 0 := this
              omega), if_pos w2]; omega
        · rw [if_neg ej, if_neg (fun z => by
            have := (kid6 j hj (by omega)).1
            rw [z] at this
            have : a 60 y = (j : Int) := this
            omega), if_neg (fun z => by
            have := (kid7 j hj (by omega)).1
            rw [z] at this
            have : a 60 y = (j : Int) := this
            omega)]; omega
      clear hside q1 q2 q3 q4
      have k1 := ps_b hI own l (i + 1) (a 66 p)
      have k2 := ps_b hI own l (i + 1) (a 67 p)
      have k3 := ps_b hI own9 l (i + 1) (a 66 p)
      have k4 := ps_b hI own9 l (i + 1) (a 67 p)
      have s8 : i6 (G (g 3 p).toNat 8 + G (g 3 y).toNat 8) := by rw [p8, y8]; exact ⟨by omega, by omega⟩
      have s9 : i6 (G (g 3 p).toNat 9 + G (g 3 y).toNat 9) := by rw [p9, y9]; exact ⟨by omega, by omega⟩
      clear k1 k2 k3 k4 by8 by9 bp8 bp9
      refine bX1_gather_103 hn ⟨⟨by omega, by omega⟩, fun q => by omega, fun _ => ⟨⟨by omega, by omega⟩, ?_⟩⟩
      rw [show G 5 (((i + 1 : Nat) : Nat) : Int).toNat = g 3 y from e5, e3]
      refine ⟨py, fun q => by omega, fun _ => ⟨obp, fun z8 ez8 => ⟨by rw [ez8]; exact s8, ?_⟩⟩⟩
      have e55 : up2 G (g 3 p).toNat 8 z8 5 (((i + 1 : Nat) : Nat) : Int).toNat = g 3 y := by rw [up2_i (by omega)]; exact e5
      rw [e55]
      refine ⟨py, fun z9 ez9 => ⟨by rw [ez9]; exact s9, ?_⟩⟩
      rw [show (((i + 1 : Nat) : Nat) : Int) + (-1) = ((i : Nat) : Int) by omega]
      refine ih _ (by omega) (fun x q hx => ?_) (fun j hj => ?_)
      · rw [up2_ap, if_neg (by omega), up2_ap, if_neg (by omega)]; exact hF x q hx
      · have hjN := (mem j hj).1
        have o8 := one j hj (a 63)
        have o9 := one j hj (v9 a)
        obtain ⟨j8, j9⟩ := hLI j hj
        simp only [up2_ap, hC.ne hjN hpN]
        by_cases ej : j = p
        · rw [if_pos ej] at o8 o9
          subst ej
          simp only [true_and, and_true, if_true, show ¬ ((8 : Nat) = 9) by omega, show ¬ ((9 : Nat) = 8) by omega, and_false, if_false]
          rw [ez8, ez9, j8, j9, y8, y9]
          omega
        · rw [if_neg ej] at o8 o9
          rw [if_neg (fun z => ej z.1), if_neg (fun z => ej z.1), if_neg (fun z => ej z.1), if_neg (fun z => ej z.1), j8, j9]
          omega
  have l0 : 0 < l.length := (List.getElem?_eq_some_iff.mp hB.1).1
  obtain ⟨L, eL⟩ : ∃ L, l.length = L + 1 := ⟨l.length - 1, by omega⟩
  rw [h41, eL, show (((L + 1 : Nat) : Nat) : Int) - 1 = ((L : Nat) : Int) by omega]
  refine key L G0 (by omega) (fun _ _ _ => rfl) (fun j hj => ?_)
  obtain ⟨-, -, -, g8, g9⟩ := hG.2.2.2.2 j hj
  have nul : ∀ (v : Nat → Int) (s : Int), (0 ≤ s → s.toNat ∈ l) → ps a v l L s = 0 := fun v s hs => by
    unfold ps
    rw [if_neg]
    intro z
    obtain ⟨m, hm⟩ := List.getElem?_of_mem (hs z.1)
    rw [pos_of nd hm] at z
    have := (List.getElem?_eq_some_iff.mp hm).1
    omega
  rw [nul _ _ (kids j hj).1, nul _ _ (kids j hj).2, nul _ _ (kids j hj).1, nul _ _ (kids j hj).2, g8, g9]
  unfold v9
  omega
end Gather4
