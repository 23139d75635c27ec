/-! FILL: the class; what ways and fill depend on -/
section FillC
variable {d n : Nat} {dy : Nat → Shp} {g a : Hp} {P : Pst}
theorem cs_fill {x1 x2 x3 : Int} (hC : Ca n dy g a) (hI : Inv a) (h1 : i3 x1) (h2 : i3 x2) (h3 : i3 x3) (h : ∀ v a' g', opFill a x1 x2 x3 = (v, a') → Ca n dy g' a' → Kr g g' → P (some (I_ v)) n (W0 dy) g') : Runs miX11_fill (d + 19) [.ref 1, I_ x1, I_ x2, I_ x3] n (W0 dy) g P := by
  have hn := hC.1
  have bad : ∀ (s : Int) (G : Hp), Ca n dy G a → Kr g G → stP a x1 x2 x3 1 = s → 0 < s → P (some (I_ (-1))) n (W0 dy) (up2 G 1 3 s) := fun s G c1 c2 e hs => by
    refine h (-1) (up2 a 53 0 s) _ ?_ (c1.st s) (c2.up (by omega))
    unfold opFill
    rw [e, ic_t (Or.inl hs), ic_t hs]
  have bad1 : ∀ (s : Int) (r : Nat), i3 s → stP a x1 x2 x3 1 = s → 0 < s → V miX11_fill (d + 18 + 1) 13 [(0, .ref 1), (1, I_ x1), (2, I_ x2), (3, I_ x3), (4, .ref r)] [I_ s] n (W0 dy) g 0 0 P := fun s r hs3 e hs => bX11_fill_13 hn ⟨hs3, fun z => ⟨fun _ => ⟨fun _ => ⟨fun _ => bad s g hC (Kr.refl g) e hs, fun z2 => absurd z2 z⟩, fun z2 => absurd z2 z⟩, fun z2 => absurd z2 z⟩, fun z => by omega⟩
  refine wX11_fill hn (cs_trayAt hC h2 ⟨fun c => bX11_fill_5 hn ?_, fun t0 t6 => bX11_fill_5 hn ?_⟩)
  · exact cs_given (d := d + 17) hC hI h1 h2 (fun c => bad1 1 0 (by decide) (stP_1 c) (by decide)) (fun c1 _ => absurd c c1) (fun c1 _ _ => absurd c c1) fun c1 _ _ => absurd c c1
  refine cs_given (d := d + 17) hC hI h1 h2 (fun c => by omega) (fun c1 c2 => bad1 2 _ (by decide) (stP_2 c1 c2) (by decide)) (fun c1 c2 c3 => bad1 3 _ (by decide) (stP_3 c1 c2 c3) (by decide)) fun c1 c2 c3 => ?_
  obtain ⟨k, rfl⟩ := Int.eq_ofNat_of_zero_le c2.1
  obtain ⟨t, rfl⟩ := Int.eq_ofNat_of_zero_le t0
  have ht : t < 6 := by omega
  have hk := c2.2
  have c3' : ¬ a 55 t < 0 := c3
  show V miX11_fill (d + 18 + 1) 13 [(0, .ref 1), (1, I_ (k : Int)), (2, I_ (t : Int)), (3, I_ x3), (4, .ref (41 + 2 * t))] [I_ 0] n (W0 dy) g 0 0 P
  refine bX11_fill_13 hn ⟨by decide, fun z => absurd rfl z, fun _ => cs_place (d := d + 17) hC hI ht h3 ?_⟩
  have epl : plcI a (t : Int) x3 = if x3 < 0 ∨ a 55 t ≤ x3 then 4 else 0 := by
    unfold plcI
    rw [if_neg (by omega)]
    exact if_neg c3'
  rw [epl]
  by_cases c4 : x3 < 0 ∨ a 55 t ≤ x3
  · rw [if_pos c4]
    exact bX11_fill_26 hn ⟨by decide, fun z => ⟨fun _ => ⟨fun _ => bad 4 g hC (Kr.refl g) (stP_4 c1 c2 c3 ⟨by decide, c4⟩) (by decide), fun z2 => absurd z2 z⟩, fun z2 => absurd z2 z⟩, fun z => absurd z (by decide)⟩
  rw [if_neg c4]
  have hst := stP_5 (a := a) (x3 := x3) (x4 := 1) c1 c2 c3 (fun z => c4 z.2)
  have hst0 := stP_0 (a := a) (x3 := x3) (x4 := 1) c1 c2 c3 (fun z => c4 z.2)
  simp only [Int.toNat_natCast] at hst hst0
  obtain ⟨kk, rfl⟩ := Int.eq_ofNat_of_zero_le (by omega : 0 ≤ x3)
  refine bX11_fill_26 hn ⟨by decide, fun z => absurd rfl z, fun _ => cs_partAt hC hI h1 ⟨fun q => by omega, fun _ _ => ?_⟩⟩
  show V miX11_fill (d + 18 + 1) 39 [(0, .ref 1), (1, I_ (k : Int)), (2, I_ (t : Int)), (3, I_ (kk : Int)), (4, .ref (41 + 2 * t)), (5, I_ 0)] [.ref (g 3 k).toNat, .ref 1] n (W0 dy) g 0 0 P
  have tr := tr_ok (dy := dy) hn ht
  refine v_rng fun wr => ?_
  have r6 : ∀ q : Nat, (q : Int) < a 55 t → i6 (a 56 (16 * t + q)) := fun q hq => by
    rcases hC.tk hI ht with ⟨k1, k2⟩ | ⟨k1, k2, k3, k4, k5⟩
    · omega
    rw [← k5 q hq]
    have := wr (42 + 2 * t) q (by omega) (by omega)
    rw [show 42 + 2 * t = 41 + 2 * t + 1 by omega, tr.2.2.2.2.2.2.1] at this
    rw [show 42 + 2 * t = 41 + 2 * t + 1 by omega]
    exact this
  clear wr
  refine bX11_fill_39 hn (cs_shapeStatus (d := d + 15) hC hI r6 hk ht (by omega) (fun s G d1 d2 es hs => ?_) (fun G d1 d2 d3 e5 e6 e7 e8 => ?_))
  · have hsb := stP_b a (k : Int) (t : Int) (kk : Int) 1
    rw [hst, ← es] at hsb
    exact bX11_fill_44 hn ⟨⟨by omega, by omega⟩, fun z => ⟨fun _ => bad s G d1 d2 (by rw [hst]; exact es.symm) hs, fun z2 => absurd z2 z⟩, fun z => by omega⟩
  · have hs0 := hst0 e5 e6 e7 e8
    refine bX11_fill_44 hn ⟨by decide, fun z => absurd rfl z, fun _ => cs_partAt d1 hI h1 ⟨fun q => by omega, fun _ _ => ?_⟩⟩
    refine bX11_fill_57 hn (cs_waysFound (d := d) (k := k) (t := t) d1 hI hk ht e5 e6 e8 fun G' f1 f2 f3 f4 f5 => ?_)
    refine bX11_fill_62 hn ⟨⟨by omega, by omega⟩, fun q => ⟨by decide, fun z => absurd rfl z, fun _ => ?_⟩, fun q => ?_⟩
    · obtain ⟨z1, z2⟩ := f4 (by omega)
      have e18 := f3.resolve_right q
      obtain ⟨N, eN⟩ := Int.eq_ofNat_of_zero_le (by omega : 0 ≤ a 55 t)
      have eNt : (a 55 t).toNat = N := by omega
      rw [eNt] at z1 z2
      have hhb := hr_b N z2
      have h8 : 8 ^ N ≤ 8 ^ 10 := Nat.pow_le_pow_right (by omega) (by omega)
      have h10 : (8 : Nat) ^ 10 = 1073741824 := by decide
      refine cs_firstPlaceOf (N := N) (kk := kk) (x := hr (fwV a k t) N) (d := d + 17) hn (by omega) (by omega) (by rw [up2_i (by decide), e18, eN]) (by rw [up2_i (by decide)]; exact z1) (by omega) ?_
      rw [hr_dig N z2 (by omega)]
      refine bX11_fill_90 hn (h _ (up2 a 53 0 0) _ ?_ (f1.st 0) ((d2.trans f2).up (by omega)))
      unfold opFill
      simp only [Int.toNat_natCast]
      rw [hs0, ic_f (by rintro (z | z); exact absurd z (by decide); exact q z), ic_f (by decide), ic_f q]
    · refine h (-1) (up2 a 53 0 11) _ ?_ (f1.st 11) ((d2.trans f2).up (by omega))
      unfold opFill
      simp only [Int.toNat_natCast]
      rw [hs0, ic_t (Or.inr q), ic_f (by decide), ic_t q]
theorem rz_eqS {g g1 : Hp} (h : rz g1 = rz g) : eqS g g1 := ⟨fun i q h1 h2 => rz_of h (by unfold rl; rw [show (Nat.ble 54 i && Nat.ble i 70) = true by rw [Bool.and_eq_true, Nat.ble_eq, Nat.ble_eq]; omega]; rfl), rz_of h rfl⟩
theorem stP_cg {g g1 : Hp} (h : rz g1 = rz g) (x1 x2 x3 x4 : Int) : stP g1 x1 x2 x3 x4 = stP g x1 x2 x3 x4 := by
  have he := rz_eqS h
  have r : ∀ i, (54 ≤ i ∧ i ≤ 70) → g1 i = g i := fun i hi => funext fun q => rz_of h (by unfold rl; rw [show (Nat.ble 54 i && Nat.ble i 70) = true by rw [Bool.and_eq_true, Nat.ble_eq, Nat.ble_eq]; exact hi]; rfl)
  have es : ShO g1 x1.toNat = ShO g x1.toNat := propext (ShO_cgS he _)
  unfold stP vlO
  rw [es, he.2, r 55 (by omega), r 56 (by omega), r 57 (by omega), r 60 (by omega)]
theorem wy_cg {g g1 : Hp} (h : rz g1 = rz g) (k t : Nat) : wyV g1 k t = wyV g k t ∧ fwV g1 k t = fwV g k t := by
  have he := rz_eqS h
  have r : ∀ i, (54 ≤ i ∧ i ≤ 70) → g1 i = g i := fun i hi => funext fun q => rz_of h (by unfold rl; rw [show (Nat.ble 54 i && Nat.ble i 70) = true by rw [Bool.and_eq_true, Nat.ble_eq, Nat.ble_eq]; exact hi]; rfl)
  have eA : vlA g1 t = vlA g t := by unfold vlA; rw [r 56 (by omega)]
  have eV : vlV g1 t = vlV g t := by unfold vlV; rw [r 56 (by omega)]
  have eW : ∀ N, wnt g1 t N k = wnt g t N k := fun N => by funext e; unfold wnt; rw [toS_cgS he, eA]
  have ew : ∀ x, whS g1 8 (k : Int) x = whS g 8 (k : Int) x := fun x => propext (whS_cgS he _ _ _)
  unfold wyV fwV
  rw [r 55 (by omega), eA, eV, eW, ew, neS_cgS he]
  exact ⟨rfl, rfl⟩
theorem opWays_cg {g g1 : Hp} (h : rz g1 = rz g) (x1 x2 : Int) : (opWays g1 x1 x2).1 = (opWays g x1 x2).1 ∧ rz (opWays g1 x1 x2).2 = rz (opWays g x1 x2).2 := by
  unfold opWays
  rw [stP_cg h, (wy_cg h _ _).1]
  exact ⟨rfl, by show rz (up2 g1 53 0 _) = rz (up2 g 53 0 _); rw [rz_f0, rz_f0, h]⟩
theorem opFill_cg {g g1 : Hp} (h : rz g1 = rz g) (x1 x2 x3 : Int) : (opFill g1 x1 x2 x3).1 = (opFill g x1 x2 x3).1 ∧ rz (opFill g1 x1 x2 x3).2 = rz (opFill g x1 x2 x3).2 := by
  unfold opFill
  rw [stP_cg h, (wy_cg h _ _).1, (wy_cg h _ _).2]
  exact ⟨rfl, by show rz (up2 g1 53 0 _) = rz (up2 g 53 0 _); rw [rz_f0, rz_f0, h]⟩
theorem inv_ways {a : Hp} (hI : Inv a) (x1 x2 : Int) : Inv (opWays a x1 x2).2 := hI.st _
theorem inv_fill {a : Hp} (hI : Inv a) (x1 x2 x3 : Int) : Inv (opFill a x1 x2 x3).2 := hI.st _
end FillC
