/-! WAYS AND FILL: the class -/
section WaysC
variable {d n : Nat} {dy : Nat → Shp} {g a : Hp} {P : Pst}
theorem cs_firstPlaceOf {N kk : Nat} {x : Nat} (hn : 100 ≤ n) (hN : N ≤ 10) (hk : kk < N) (e1 : g 18 1 = (N : Int)) (e35 : g 35 (2 ^ N - 1) = (x : Int)) (hx : x < 1073741824) (h : P (some (I_ ((x / 8 ^ (N - 1 - kk) % 8 : Nat) : Int))) n (W0 dy) g) : Runs miX3_firstPlaceOf (d + 1) [.ref 18, I_ (kk : Int)] n (W0 dy) g P := by
  have hp2 := p2_le hN
  have hpp := p2_pos N
  refine wX3_firstPlaceOf hn ⟨⟨by omega, by omega⟩, fun q => by omega, fun _ => ⟨fun q => by omega, fun _ => wX3_fullSet hn ?_⟩⟩
  rw [e1, shl_N hN, show ((2 ^ N : Nat) : Int) - 1 = ((2 ^ N - 1 : Nat) : Int) by omega]
  refine bX3_firstPlaceOf_20 hn ⟨⟨by omega, by omega⟩, ?_⟩
  rw [e1, show g 35 ((2 ^ N - 1 : Nat) : Int).toNat = (x : Int) from e35, show 3 * ((N : Int) - 1 - (kk : Int)) = ((3 * (N - 1 - kk) : Nat) : Int) by omega, shr3_n (by omega) (by omega)]
  have hle : x / 2 ^ (3 * (N - 1 - kk)) ≤ x := Nat.div_le_self ..
  have e7 : and3 ((x / 2 ^ (3 * (N - 1 - kk)) : Nat) : Int) ((7 : Nat) : Int) = ((x / 2 ^ (3 * (N - 1 - kk)) &&& 7 : Nat) : Int) := and3_n (by omega)
  have e8 : x / 2 ^ (3 * (N - 1 - kk)) &&& 7 = x / 2 ^ (3 * (N - 1 - kk)) % 8 := Nat.and_two_pow_sub_one_eq_mod _ 3
  rw [show (7 : Int) = ((7 : Nat) : Int) from rfl, e7, e8, Nat.pow_mul]
  exact h
theorem stP_1 {x1 x2 x3 x4 : Int} (h : x2 < 0 ∨ 6 ≤ x2) : stP a x1 x2 x3 x4 = 1 := ic_t h
theorem stP_2 {x1 x2 x3 x4 : Int} (h : ¬ (x2 < 0 ∨ 6 ≤ x2)) (h2 : ¬ (0 ≤ x1 ∧ x1 < a 53 5)) : stP a x1 x2 x3 x4 = 2 := (ic_f h).trans (ic_t h2)
theorem stP_3 {x1 x2 x3 x4 : Int} (h : ¬ (x2 < 0 ∨ 6 ≤ x2)) (h2 : 0 ≤ x1 ∧ x1 < a 53 5) (h3 : a 55 x2.toNat < 0) : stP a x1 x2 x3 x4 = 3 := ((ic_f h).trans (ic_f (fun z => z h2))).trans (ic_t h3)
theorem stP_4 {x1 x2 x3 x4 : Int} (h : ¬ (x2 < 0 ∨ 6 ≤ x2)) (h2 : 0 ≤ x1 ∧ x1 < a 53 5) (h3 : ¬ a 55 x2.toNat < 0) (h4 : x4 ≠ 0 ∧ (x3 < 0 ∨ a 55 x2.toNat ≤ x3)) : stP a x1 x2 x3 x4 = 4 := (((ic_f h).trans (ic_f (fun z => z h2))).trans (ic_f h3)).trans (ic_t h4)
theorem stP_5 {x1 x2 x3 x4 : Int} (h : ¬ (x2 < 0 ∨ 6 ≤ x2)) (h2 : 0 ≤ x1 ∧ x1 < a 53 5) (h3 : ¬ a 55 x2.toNat < 0) (h4 : ¬ (x4 ≠ 0 ∧ (x3 < 0 ∨ a 55 x2.toNat ≤ x3))) : stP a x1 x2 x3 x4 = ic (¬ (a 57 x1.toNat = 2 ∨ a 57 x1.toNat = 3)) 5 (ic (a 55 x2.toNat < 2 ∨ 10 < a 55 x2.toNat ∨ ¬ vlO a x2.toNat (a 55 x2.toNat).toNat) 7 (ic (0 ≤ a 60 x1.toNat) 8 (ic (¬ ShO a x1.toNat) 9 0))) := (((ic_f h).trans (ic_f (fun z => z h2))).trans (ic_f h3)).trans (ic_f h4)
theorem stP_0 {x1 x2 x3 x4 : Int} (h : ¬ (x2 < 0 ∨ 6 ≤ x2)) (h2 : 0 ≤ x1 ∧ x1 < a 53 5) (h3 : ¬ a 55 x2.toNat < 0) (h4 : ¬ (x4 ≠ 0 ∧ (x3 < 0 ∨ a 55 x2.toNat ≤ x3))) (h5 : a 57 x1.toNat = 2 ∨ a 57 x1.toNat = 3) (h6 : 2 ≤ a 55 x2.toNat ∧ a 55 x2.toNat ≤ 10 ∧ vlO a x2.toNat (a 55 x2.toNat).toNat) (h7 : a 60 x1.toNat < 0) (h8 : ShO a x1.toNat) : stP a x1 x2 x3 x4 = 0 := by
  rw [stP_5 h h2 h3 h4, ic_f (fun z => z h5), ic_f (by rintro (w | w | w); omega; omega; exact w h6.2.2), ic_f (by omega), ic_f (fun z => z h8)]
/-- the class's count is the reference's -/
theorem cs_waysFound {k t : Nat} (hC : Ca n dy g a) (hI : Inv a) (hk : (k : Int) < a 53 5) (ht : t < 6) (h5 : a 57 k = 2 ∨ a 57 k = 3) (h6 : 2 ≤ a 55 t ∧ a 55 t ≤ 10 ∧ vlO a t (a 55 t).toNat) (h8 : ShO a k)
    (h : ∀ G : Hp, Ca n dy G a → Kr g G → G 18 1 = a 55 t ∨ wyV a k t = 0 → (0 < wyV a k t → G 35 (2 ^ (a 55 t).toNat - 1) = ((hr (fwV a k t) (a 55 t).toNat : Nat) : Int) ∧ (∀ i, i < (a 55 t).toNat → fwV a k t i < 8)) → (0 ≤ wyV a k t ∧ wyV a k t ≤ 1073741824) → P (some (I_ (wyV a k t))) n (W0 dy) G) :
    Runs miX11_waysFound (d + 18) [.ref 1, .ref (g 3 k).toNat, .ref (41 + 2 * t)] n (W0 dy) g P := by
  have hn := hC.1
  have bk := hC.cell hk
  obtain ⟨N, eN⟩ := Int.eq_ofNat_of_zero_le (by omega : 0 ≤ a 55 t)
  obtain ⟨hnn, hn1⟩ := nr_top hI hk
  obtain ⟨m, em⟩ := Int.eq_ofNat_of_zero_le (by omega : 0 ≤ neS a (k : Int))
  have hm8 := h8.2
  have eNt : (a 55 t).toNat = N := by omega
  have emt : (neS a (k : Int)).toNat = m := by omega
  have hvl : vlO a t N := by rw [← eNt]; exact h6.2.2
  refine wX11_waysFound hn (cs_asRod hC hI hk ⟨fun _ => ?_, fun z => absurd h5 z⟩)
  refine bX11_waysFound_4 hn ⟨fun q => by omega, fun _ => ⟨fun _ => ?_, fun q => by omega⟩⟩
  refine cs_count (d := d) (m := m) hC hI hk ht eN (by omega) (by omega) hvl h8 em (fun hw G c1 c2 => bX11_waysFound_24 hn ?_) (fun hw G c1 c2 c3 c4 => bX11_waysFound_24 hn ?_)
  · have e : wyV a k t = 0 := by unfold wyV; rw [eNt]; exact ic_f hw
    have := h G c1 c2 (Or.inr e) (fun z => by omega) (by omega)
    rw [e] at this; exact this
  · have e : wyV a k t = Cc N (vlV a t) (wnt a t N k) m (2 ^ N - 1) := by
      unfold wyV
      rw [eNt, emt, ic_t hw, both_ways]
    have hb := Cc_b (N := N) (v := vlV a t) (w := wnt a t N k) (p := m) (T := 2 ^ N - 1) (by omega) (by omega) (full_lt N)
    have := h G c1 c2 (Or.inl (by rw [c3, eN])) (fun z => ?_) (by rw [e]; exact hb)
    · rw [e] at this; exact this
    · rw [e] at z
      have hpos := z
      rw [both_ways] at hpos
      have hMx : Mn (a 55 t).toNat (vlV a t) (wnt a t (a 55 t).toNat k) (neS a (k : Int)).toNat (fwV a k t) := by
        refine Classical.epsilon_spec (p := fun f => Mn (a 55 t).toNat (vlV a t) (wnt a t (a 55 t).toNat k) (neS a (k : Int)).toNat f) ?_
        rw [eNt, emt]
        exact Mn_ex (by omega) hpos
      rw [eNt, emt] at hMx
      rw [eNt]
      exact ⟨Fl_first (by omega) hMx (c4 z), fun i hi => by
        have := (hMx.1.1 i hi (by rw [tb_full]; exact decide_eq_true hi)).2
        omega⟩
theorem cs_ways {x1 x2 : Int} (hC : Ca n dy g a) (hI : Inv a) (h1 : i3 x1) (h2 : i3 x2) (h : ∀ v a' g', opWays a x1 x2 = (v, a') → Ca n dy g' a' → Kr g g' → P (some (I_ v)) n (W0 dy) g') : Runs miX11_ways (d + 19) [.ref 1, I_ x1, I_ x2] n (W0 dy) g P := by
  have hn := hC.1
  have bad : ∀ (s : Int) (G : Hp), Ca n dy G a → Kr g G → stP a x1 x2 0 0 = s → 0 < s → P (some (I_ (-1))) n (W0 dy) (up2 G 1 3 s) := fun s G c1 c2 e hs => by
    refine h (-1) (up2 a 53 0 s) _ ?_ (c1.st s) (c2.up (by omega))
    unfold opWays
    rw [e, ic_t hs]
  have bad1 : ∀ s : Int, i3 s → stP a x1 x2 0 0 = s → 0 < s → V miX11_ways (d + 18 + 1) 6 [(0, .ref 1), (1, I_ x1), (2, I_ x2)] [I_ s] n (W0 dy) g 0 0 P := fun s hs3 e hs => bX11_ways_6 hn ⟨hs3, fun _ => ⟨fun _ => bad s g hC (Kr.refl g) e hs, fun z => by omega⟩, fun z => by omega⟩
  refine wX11_ways hn (cs_given (d := d + 17) hC hI h1 h2 (fun c => bad1 1 (by decide) (stP_1 c) (by decide)) (fun c1 c2 => bad1 2 (by decide) (stP_2 c1 c2) (by decide)) (fun c1 c2 c3 => bad1 3 (by decide) (stP_3 c1 c2 c3) (by decide)) fun c1 c2 c3 => ?_)
  have hst := stP_5 (a := a) (x3 := 0) (x4 := 0) c1 c2 c3 (fun z => absurd rfl z.1)
  have hst0 := stP_0 (a := a) (x3 := 0) (x4 := 0) c1 c2 c3 (fun z => absurd rfl z.1)
  obtain ⟨k, rfl⟩ := Int.eq_ofNat_of_zero_le c2.1
  obtain ⟨t, rfl⟩ := Int.eq_ofNat_of_zero_le (by omega : 0 ≤ x2)
  have ht : t < 6 := by omega
  have hk := c2.2
  have c3 : ¬ a 55 t < 0 := c3
  simp only [Int.toNat_natCast] at hst hst0
  refine bX11_ways_6 hn ⟨by decide, fun z => absurd rfl z, fun _ => cs_partAt hC hI h1 ⟨fun q => by omega, fun _ _ => bX11_ways_18 hn (cs_trayAt hC h2 ⟨fun q => by omega, fun _ _ => ?_⟩)⟩⟩
  show V miX11_ways (d + 18 + 1) 23 [(0, .ref 1), (1, I_ (k : Int)), (2, I_ (t : Int)), (3, I_ 0)] [.ref (41 + 2 * t), .ref (g 3 k).toNat, .ref 1, .ref 1] n (W0 dy) g 0 0 P
  have tr := tr_ok (dy := dy) hn ht
  refine v_rng fun wr => ?_
  have r6 : ∀ q : Nat, (q : Int) < a 55 t → i6 (a 56 (16 * t + q)) := fun q hq => by
    rcases hC.tk hI ht with ⟨k1, k2⟩ | ⟨k1, k2, k3, k4, k5⟩
    · omega
    rw [← k5 q hq]
    have := wr (42 + 2 * t) q (by omega) (by omega)
    rw [show 42 + 2 * t = 41 + 2 * t + 1 by omega, tr.2.2.2.2.2.2.1] at this
    rw [show 42 + 2 * t = 41 + 2 * t + 1 by omega]
    exact this
  clear wr
  refine bX11_ways_23 hn (cs_shapeStatus (d := d + 15) hC hI r6 hk ht (by omega) (fun s G d1 d2 es hs => ?_) (fun G d1 d2 d3 e5 e6 e7 e8 => ?_))
  · have hsb := stP_b a (k : Int) (t : Int) 0 0
    rw [hst, ← es] at hsb
    exact bX11_ways_26 hn ⟨⟨by omega, by omega⟩, fun _ => bad s G d1 d2 (by rw [hst]; exact es.symm) hs, fun z => by omega⟩
  · have hs0 := hst0 e5 e6 e7 e8
    have dC : Ca n dy (up2 G 1 3 0) (up2 a 53 0 0) := d1.st 0
    have hI' : Inv (up2 a 53 0 0) := hI.st 0
    have dC' : Ca n dy (up2 G 1 3 0) (up2 a 53 0 0) := dC
    have g3 : up2 G 1 3 0 3 k = G 3 k := up2_i (by decide)
    refine bX11_ways_26 hn ⟨by decide, fun z => absurd rfl z, fun _ => cs_partAt dC hI' h1 ⟨fun q => by have := hk; have e : up2 a 53 0 0 53 5 = a 53 5 := rfl; omega, fun _ _ => bX11_ways_46 hn (cs_trayAt dC h2 ⟨fun q => by omega, fun _ _ => ?_⟩)⟩⟩
    refine bX11_ways_51 hn (cs_waysFound (d := d) (k := k) (t := t) dC hI' hk ht e5 e6 e8 fun G' f1 f2 f3 f4 f5 => bX11_ways_54 hn ?_)
    refine h _ (up2 a 53 0 0) G' ?_ f1 (fun i q hi => (f2 i q hi).trans ((up2_i (by omega)).trans (d2 i q hi)))
    unfold opWays
    simp only [Int.toNat_natCast]
    rw [hs0, ic_f (by decide)]
    rfl
end WaysC
