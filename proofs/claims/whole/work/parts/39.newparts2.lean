/-! THE CLASS: weight, load, rod -/
section NewParts2
variable {d n : Nat} {dy : Nat → Shp} {g a : Hp} {P : Pst}
theorem cs_weight {x1 : Int} (hC : Ca n dy g a) (hI : Inv a) (h1 : i3 x1) (h : ∀ v a' n' dy' g', nwW (up2 a 53 0 0) x1 = (v, a') → Ca n' dy' g' a' → Kr g g' → P (some (I_ v)) n' (W0 dy') g') : Runs maX11_weight (d + 4) [.ref 1, I_ x1] n (W0 dy) g P :=
  waX11_weight hC.1 ⟨h1, cs_newWeight hC hI ⟨by omega, by omega⟩ fun v a' n' dy' g' e hc hk => baX11_weight_6 hc.1 (h v a' n' dy' g' e hc hk)⟩
theorem cs_load {x1 x2 : Int} (hC : Ca n dy g a) (hI : Inv a) (h1 : i3 x1) (h2 : i3 x2) (h : ∀ v a' n' dy' g', opLoad a x1 x2 = (v, a') → Ca n' dy' g' a' → Kr g g' → P (some (I_ v)) n' (W0 dy') g') : Runs maX11_load (d + 4) [.ref 1, I_ x1, I_ x2] n (W0 dy) g P := by
  have hn := hC.1
  have kr : ∀ w, Kr g (up2 g 1 3 w) := fun w => (Kr.refl g).up (by omega)
  have hb := plcI_b a x1 x2
  have no : ∀ r3 : Nat, 0 < plcI a x1 x2 → V maX11_load (d + 4) 11 [(0, .ref 1), (1, I_ x1), (2, I_ x2), (3, .ref r3)] [I_ (plcI a x1 x2)] n (W0 dy) g 0 0 P := fun r3 c => by
    refine baX11_load_11 hn ⟨by omega, fun _ => wX11_none hn ⟨by omega, baX11_load_28 hn (h _ _ n dy _ (by unfold opLoad; exact if_pos c) (hC.st _) (kr _))⟩, fun q => by omega⟩
  refine waX11_load hn (cs_trayAt hC h1 ⟨fun c => baX11_load_5 hn (cs_place0 hn ?_), fun c1 c2 => ?_⟩)
  · have e : plcI a x1 x2 = 1 := plc_neg c
    have := no 0 (by omega)
    rw [e] at this; exact this
  · obtain ⟨t, rfl⟩ := exN c1
    have ht : t < 6 := by omega
    show V maX11_load (d + 4) 5 [(0, .ref 1), (1, I_ (t : Int)), (2, I_ x2)] [.ref (41 + 2 * t)] n (W0 dy) g 0 0 P
    refine baX11_load_5 hn (cs_place hC hI ht h2 ?_)
    by_cases c : 0 < plcI a (t : Int) x2
    · exact no _ c
    · have e : plcI a (t : Int) x2 = 0 := by omega
      obtain ⟨b1, b2, b3, b4⟩ := hb.2 e
      have b2 : 0 ≤ a 55 t := b2
      have b4 : x2 < a 55 t := b4
      have tr := tr_ok (dy := dy) hn ht
      rcases hC.tk hI ht with ⟨k1, k2⟩ | ⟨k1, k2, k3, k4, k5⟩
      · omega
      · refine baX11_load_11 hn ⟨by omega, fun q => absurd e q, fun _ => ⟨fun _ => ⟨tr, wX9_at hn ⟨tr, wX9_has hn ⟨h2, fun q => by omega, fun _ => ⟨tr, fun q => by omega, fun q => ⟨fun q => by omega, fun _ => ?_⟩⟩⟩⟩⟩, fun q => by omega⟩⟩
        refine bX9_at_5 hn ⟨by decide, fun q => absurd q (by decide), fun _ => ⟨tr, ⟨b3, by omega⟩, ?_⟩⟩
        have e1 : g (41 + 2 * t + 1) x2.toNat = a 56 (16 * (t : Int) + x2).toNat := by
          rw [show 41 + 2 * t + 1 = 42 + 2 * t by omega, k5 x2.toNat (by omega), show (16 * (t : Int) + x2).toNat = 16 * t + x2.toNat by omega]
        refine v_rng fun w => ?_
        have r6 : i6 (g (41 + 2 * t + 1) x2.toNat) := by
          have := w (41 + 2 * t + 1) x2.toNat (by omega) (by omega)
          rw [tr.2.2.2.2.2.2.1] at this
          exact this
        clear w
        rw [e1] at r6 ⊢
        refine baX11_load_35 hn (cs_newWeight hC hI r6 fun v a' n' dy' g' e2 hc hk => baX11_load_38 hc.1 (h v a' n' dy' g' ?_ hc hk))
        unfold opLoad
        rw [if_neg c]; exact e2
theorem cs_rod {x1 x2 x3 : Int} (hC : Ca n dy g a) (hI : Inv a) (h1 : i3 x1) (h2 : i3 x2) (h3 : i3 x3) (h : ∀ v a' n' dy' g', opRod (up2 a 53 0 0) x1 x2 x3 = (v, a') → Ca n' dy' g' a' → Kr g g' → P (some (I_ v)) n' (W0 dy') g') : Runs maX11_rod (d + 3) [.ref 1, I_ x1, I_ x2, I_ x3] n (W0 dy) g P := by
  have hn := hC.1
  have e2 := hC.2.1.1
  have hN := hI.1
  have kr : ∀ w, Kr g (up2 g 1 3 w) := fun w => (Kr.refl g).up (by omega)
  have no7 : (x1 < 2 ∨ 1000 < x1 ∨ x2 < 0 ∨ 1000 < x2) → Runs miX11_none (d + 2) [.ref 1, I_ 7] n (W0 dy) g (fun v n' S' g' => V maX11_rod (d + 3) 29 [(0, .ref 1), (1, I_ x1), (2, I_ x2), (3, I_ x3)] (v.toList ++ []) n' S' g' 0 0 P) := fun c => by
    refine wX11_none hn ⟨by decide, baX11_rod_29 hn (h _ _ n dy _ ?_ (hC.st2 0 7) (kr 7))⟩
    unfold opRod; exact if_pos c
  have yes : ¬ (x1 < 2 ∨ 1000 < x1 ∨ x2 < 0 ∨ 1000 < x2) → g 1 2 < 60 → ∀ kd : Int, kd = (if x3 = 0 then 2 else 3) → Runs miX6_init (d + 2) [.ref n, I_ (g 1 2), I_ kd, I_ x1, I_ x2] (n + 1) (W0 (dyu dy n 5)) (upr g n (fun _ => 0)) (fun v n' S' g' => V maX11_rod (d + 3) 69 [(0, .ref 1), (1, I_ x1), (2, I_ x2), (3, I_ x3)] (v.toList ++ [.ref n, .ref 1]) n' S' g' 1 16 P) := fun c q3 kd ek => by
    clear no7 kr
    obtain ⟨N, eN⟩ := exN hN.1
    have hN60 : N < 60 := by omega
    have obn := ob_new (dy := dy) 5 hn
    have pn : Pt (n + 1) (W0 (dyu dy n 5)) n := ⟨obn.1, Or.inr (Or.inl obn.2.1), obn.2.2⟩
    have hn1 : 100 ≤ n + 1 := by omega
    have eA : (up2 a 53 0 0) 53 5 = (N : Int) := eN
    have hkd : kd = 2 ∨ kd = 3 := by rw [ek]; split <;> omega
    have hm1 : 0 ≤ x1 * x2 := Int.mul_nonneg (by omega) (by omega)
    have hm2 : x1 * x2 ≤ 1000 * 1000 := Int.mul_le_mul (by omega) (by omega) (by omega) (by omega)
    have eop : opRod (up2 a 53 0 0) x1 x2 x3 = (a 53 5, up2 (up2 (up2 (up2 (nwp (up2 a 53 0 0) kd (x1 * x2)) 59 N x1) 58 N x2) 64 N 1) 65 N 2) := by
      unfold opRod
      refine (if_neg c).trans ((if_neg (show ¬ a 53 5 = 60 by omega)).trans ?_)
      rw [← ek, show ((up2 a 53 0 0) 53 5).toNat = N by rw [eA]; rfl]
      rfl
    obtain ⟨w1, w2, w3, w4, w5, w6, w7, w8, w9⟩ := nwp_at (kd := kd) (w := x1 * x2) eA
    refine wX6_init hn1 ⟨pn, wX2_init hn1 ⟨pn, by omega, by omega, by omega, bX6_init_10 hn1 ⟨obn, h1, h2, baX11_rod_69 hn1 ?_⟩⟩⟩
    obtain ⟨n0, n1, n2, n3, n4, n5, n6, n7⟩ := @nc2_at (upr g n (fun _ => 0)) n (g 1 2) kd (x1 * x2)
    show Runs miX11_added (d + 2) [.ref 1, .ref n] (n + 1) (W0 (dyu dy n 5)) (up2 (up2 (up2 (up2 (up2 (up2 (nc2 (upr g n (fun _ => 0)) n (g 1 2) kd (x1 * x2)) n 12 1) n 13 2) n 14 (((0 : Nat) : Int))) n 15 (((0 : Nat) : Int))) n 10 x1) n 11 x2) _
    have old : ∀ i q, i ≠ n → nc2 (upr g n (fun _ => 0)) n (g 1 2) kd (x1 * x2) i q = g i q := fun i q hi => by rw [n6 i q hi, upr_ne hi]
    clear n6 n7
    generalize nc2 (upr g n (fun _ => 0)) n (g 1 2) kd (x1 * x2) = G0 at *
    have m : ∀ q, up2 (up2 (up2 (up2 (up2 (up2 G0 n 12 1) n 13 2) n 14 (((0 : Nat) : Int))) n 15 (((0 : Nat) : Int))) n 10 x1) n 11 x2 n q = if q = 11 then x2 else if q = 10 then x1 else if q = 15 then 0 else if q = 14 then 0 else if q = 13 then 2 else if q = 12 then 1 else G0 n q := fun q => by
      simp only [up2_ap, true_and]
      rfl
    have old' : ∀ i q, i ≠ n → up2 (up2 (up2 (up2 (up2 (up2 G0 n 12 1) n 13 2) n 14 (((0 : Nat) : Int))) n 15 (((0 : Nat) : Int))) n 10 x1) n 11 x2 i q = g i q := fun i q hi => by
      rw [up2_i hi, up2_i hi, up2_i hi, up2_i hi, up2_i hi, up2_i hi, old i q hi]
    generalize up2 (up2 (up2 (up2 (up2 (up2 G0 n 12 1) n 13 2) n 14 (((0 : Nat) : Int))) n 15 (((0 : Nat) : Int))) n 10 x1) n 11 x2 = G at *
    have f12 : G 1 2 = g 1 2 := old' 1 2 (by omega)
    refine wX11_added hn1 ⟨fun _ => ⟨by omega, pn, by omega, baX11_rod_72 hn1 ?_⟩, fun q9 => by omega⟩
    have e0 : up2 G 3 (G 1 2).toNat ((n : Nat) : Int) n 0 = a 53 5 := by
      rw [up2_i (by omega), m 0]
      simp only [Nat.reduceEqDiff, reduceIte]
      rw [n0, e2]
    rw [e0, f12]
    have eT : (g 1 2).toNat = N := by omega
    rw [eT]
    have r4 : ∀ i q, i ≠ 59 → i ≠ 58 → i ≠ 64 → i ≠ 65 → up2 (up2 (up2 (up2 (nwp (up2 a 53 0 0) kd (x1 * x2)) 59 N x1) 58 N x2) 64 N 1) 65 N 2 i q = nwp (up2 a 53 0 0) kd (x1 * x2) i q := fun i q i1 i2 i3 i4 => by rw [up2_i i4, up2_i i3, up2_i i2, up2_i i1]
    have r5 : ∀ i q, q ≠ N → up2 (up2 (up2 (up2 (nwp (up2 a 53 0 0) kd (x1 * x2)) 59 N x1) 58 N x2) 64 N 1) 65 N 2 i q = nwp (up2 a 53 0 0) kd (x1 * x2) i q := fun i q hq => by
      simp only [up2_ap]
      rw [if_neg (fun z => hq z.2), if_neg (fun z => hq z.2), if_neg (fun z => hq z.2), if_neg (fun z => hq z.2)]
    have s9 : up2 (up2 (up2 (up2 (nwp (up2 a 53 0 0) kd (x1 * x2)) 59 N x1) 58 N x2) 64 N 1) 65 N 2 59 N = x1 := by rw [up2_i (by omega), up2_i (by omega), up2_i (by omega), up2_s]
    have s8 : up2 (up2 (up2 (up2 (nwp (up2 a 53 0 0) kd (x1 * x2)) 59 N x1) 58 N x2) 64 N 1) 65 N 2 58 N = x2 := by rw [up2_i (by omega), up2_i (by omega), up2_s]
    have s4 : up2 (up2 (up2 (up2 (nwp (up2 a 53 0 0) kd (x1 * x2)) 59 N x1) 58 N x2) 64 N 1) 65 N 2 64 N = 1 := by rw [up2_i (by omega), up2_s]
    have s5 : up2 (up2 (up2 (up2 (nwp (up2 a 53 0 0) kd (x1 * x2)) 59 N x1) 58 N x2) 64 N 1) 65 N 2 65 N = 2 := up2_s
    generalize up2 (up2 (up2 (up2 (nwp (up2 a 53 0 0) kd (x1 * x2)) 59 N x1) 58 N x2) 64 N 1) 65 N 2 = A' at *
    have same : ∀ i q, ¬ (i = 53 ∧ q = 5) → ¬ (q = N ∧ (i = 57 ∨ i = 63 ∨ i = 60 ∨ i = 61 ∨ i = 62 ∨ i = 66 ∨ i = 67)) → nwp (up2 a 53 0 0) kd (x1 * x2) i q = (up2 a 53 0 0) i q := fun i q z1 z2 => by
      rcases w2 i q with z | z | z
      · exact absurd z z1
      · exact absurd z z2
      · exact z
    refine h _ _ (n + 1) (dyu dy n 5) _ eop (Ca.new (ci := 5) (N := N) hC hI eN ⟨?_, ?_, ?_⟩ (fun q => ?_) (fun i q i1 i2 i3 => ?_) ?_ ⟨?_, ?_, fun i q hi => ?_⟩ (fun i k i1 i2 hk => ?_) (fun k hk w => ?_) ?_) (fun i q hi => ?_)
    · rw [up2_k, if_neg (by omega), up2_s, e2]
    · rw [up2_s, r4 53 0 (by omega) (by omega) (by omega) (by omega), same 53 0 (by omega) (by omega)]; rfl
    · rw [up2_k, if_neg (by omega), up2_k, if_neg (by omega), up2_i (by omega), old' 1 11 (by omega)]
    · rw [up2_i (by omega), up2_i (by omega), up2_k, old' 3 q (by omega)]
    · rw [up2_i i2, up2_i i2, up2_i i3, old' i q (by omega)]
    · rw [r4 53 5 (by omega) (by omega) (by omega) (by omega)]; exact w1
    · rw [r4 53 26 (by omega) (by omega) (by omega) (by omega), same 53 26 (by omega) (by omega)]; rfl
    · rw [r4 53 29 (by omega) (by omega) (by omega) (by omega), same 53 29 (by omega) (by omega)]; rfl
    · rw [r4 i q (by omega) (by omega) (by omega) (by omega), same i q (by omega) (by omega), up2_i (by omega)]
    · rw [r5 i k (by omega), same i k (by omega) (by omega), up2_i (by omega)]
    · have r : ∀ i, (i = 68 ∨ i = 69 ∨ i = 70) → A' i = a i := fun i hi => funext fun q => by
        rw [r4 i q (by omega) (by omega) (by omega) (by omega), same i q (by omega) (by omega), up2_i (by omega)]
      unfold mdl
      rw [r 68 (by omega), r 69 (by omega), r 70 (by omega)]
    · have c3 : (up2 (up2 (up2 G 3 N ((n : Nat) : Int)) 1 2 (g 1 2 + 1)) 1 3 0) 3 N = (n : Int) := by rw [up2_i (by omega), up2_i (by omega), up2_s]
      have cu : ∀ q, (up2 (up2 (up2 G 3 N ((n : Nat) : Int)) 1 2 (g 1 2 + 1)) 1 3 0) ((n : Nat) : Int).toNat q = G n q := fun q => by
        rw [show ((n : Nat) : Int).toNat = n from rfl, up2_i (by omega), up2_i (by omega), up2_i (by omega)]
      have v57 := (r4 57 N (by omega) (by omega) (by omega) (by omega)).trans w3
      have v63 := (r4 63 N (by omega) (by omega) (by omega) (by omega)).trans w4
      have v60 := (r4 60 N (by omega) (by omega) (by omega) (by omega)).trans w5
      have v61 := (r4 61 N (by omega) (by omega) (by omega) (by omega)).trans w6
      have v62 := (r4 62 N (by omega) (by omega) (by omega) (by omega)).trans w7
      have v66 := (r4 66 N (by omega) (by omega) (by omega) (by omega)).trans w8
      have v67 := (r4 67 N (by omega) (by omega) (by omega) (by omega)).trans w9
      have dd : dyu dy n 5 n = (5, 0, fun _ => none) := if_pos rfl
      unfold CQ
      simp only [c3, cu, v57, v63, v60, v61, v62, v66, v67, s9, s8, s4, s5, m, Nat.reduceEqDiff, reduceIte]
      refine ⟨by omega, ⟨by rw [n0, e2, eN], n1, n2⟩, ⟨by rw [n3]; rfl, n4, n5⟩, fun z => by omega, fun _ => ⟨dd, ⟨trivial, trivial, trivial, trivial⟩, rfl, rfl⟩, fun z => by omega⟩
    · rw [up2_i (by omega), up2_i (by omega), up2_i (by omega), old' i q (by omega)]
  refine waX11_rod hn ⟨h1, fun q => no7 (by omega), fun q => ⟨fun q2 => no7 (by omega), fun q2 => ⟨h2, fun q3 => no7 (by omega), fun q3 => ⟨fun q4 => ⟨fun q5 => ⟨h3, fun q6 => yes (by omega) q5 2 (by rw [if_pos q6]), fun q6 => yes (by omega) q5 3 (by rw [if_neg q6])⟩, fun q5 => ?_⟩, fun q4 => no7 (by omega)⟩⟩⟩⟩
  refine wX11_none hn ⟨by decide, baX11_rod_45 hn (h _ _ n dy _ ?_ (hC.st2 0 10) (kr 10))⟩
  unfold opRod; exact (if_neg (by omega)).trans (if_pos (show a 53 5 = 60 by omega))
theorem inv_rod (hI : Inv a) (x1 x2 x3 : Int) : Inv (opRod a x1 x2 x3).2 := by
  unfold opRod
  by_cases c1 : x1 < 2 ∨ 1000 < x1 ∨ x2 < 0 ∨ 1000 < x2
  · rw [if_pos c1]; exact hI.st 7
  · rw [if_neg c1]
    by_cases c2 : a 53 5 = 60
    · rw [if_pos c2]; exact hI.st 10
    · rw [if_neg c2]
      obtain ⟨N, eN⟩ := exN hI.1.1
      have hN := hI.1.2
      have eT : (a 53 5).toNat = N := by omega
      have hkd : (if x3 = 0 then (2 : Int) else 3) = 2 ∨ (if x3 = 0 then (2 : Int) else 3) = 3 := by split <;> omega
      generalize (if x3 = 0 then (2 : Int) else 3) = kd at *
      obtain ⟨w1, w2, w3, w4, w5, w6, w7, w8, w9⟩ := nwp_at (kd := kd) (w := x1 * x2) eN
      rw [eT]
      have r4 : ∀ i q, i ≠ 59 → i ≠ 58 → i ≠ 64 → i ≠ 65 → up2 (up2 (up2 (up2 (nwp a kd (x1 * x2)) 59 N x1) 58 N x2) 64 N 1) 65 N 2 i q = nwp a kd (x1 * x2) i q := fun i q i1 i2 i3 i4 => by rw [up2_i i4, up2_i i3, up2_i i2, up2_i i1]
      have r5 : ∀ i q, q ≠ N → up2 (up2 (up2 (up2 (nwp a kd (x1 * x2)) 59 N x1) 58 N x2) 64 N 1) 65 N 2 i q = nwp a kd (x1 * x2) i q := fun i q hq => by
        simp only [up2_ap]
        rw [if_neg (fun z => hq z.2), if_neg (fun z => hq z.2), if_neg (fun z => hq z.2), if_neg (fun z => hq z.2)]
      have s9 : up2 (up2 (up2 (up2 (nwp a kd (x1 * x2)) 59 N x1) 58 N x2) 64 N 1) 65 N 2 59 N = x1 := by rw [up2_i (by omega), up2_i (by omega), up2_i (by omega), up2_s]
      have s8 : up2 (up2 (up2 (up2 (nwp a kd (x1 * x2)) 59 N x1) 58 N x2) 64 N 1) 65 N 2 58 N = x2 := by rw [up2_i (by omega), up2_i (by omega), up2_s]
      have s4 : up2 (up2 (up2 (up2 (nwp a kd (x1 * x2)) 59 N x1) 58 N x2) 64 N 1) 65 N 2 64 N = 1 := by rw [up2_i (by omega), up2_s]
      have s5 : up2 (up2 (up2 (up2 (nwp a kd (x1 * x2)) 59 N x1) 58 N x2) 64 N 1) 65 N 2 65 N = 2 := up2_s
      show Inv (up2 (up2 (up2 (up2 (nwp a kd (x1 * x2)) 59 N x1) 58 N x2) 64 N 1) 65 N 2)
      generalize up2 (up2 (up2 (up2 (nwp a kd (x1 * x2)) 59 N x1) 58 N x2) 64 N 1) 65 N 2 = A' at *
      have same : ∀ i q, ¬ (i = 53 ∧ q = 5) → ¬ (q = N ∧ (i = 57 ∨ i = 63 ∨ i = 60 ∨ i = 61 ∨ i = 62 ∨ i = 66 ∨ i = 67)) → nwp a kd (x1 * x2) i q = a i q := fun i q z1 z2 => by
        rcases w2 i q with z | z | z
        · exact absurd z z1
        · exact absurd z z2
        · exact z
      refine hI.new (N := N) eN (by omega) ((r4 53 5 (by omega) (by omega) (by omega) (by omega)).trans w1) ⟨?_, ?_, fun i q hi => ?_⟩ (fun i k i1 i2 hk => ?_) (fun i q hi hq => ?_) ⟨?_, ?_, ?_, ?_, ?_⟩ ?_
      · rw [r4 53 26 (by omega) (by omega) (by omega) (by omega)]; exact same 53 26 (by omega) (by omega)
      · rw [r4 53 29 (by omega) (by omega) (by omega) (by omega)]; exact same 53 29 (by omega) (by omega)
      · rw [r4 i q (by omega) (by omega) (by omega) (by omega)]; exact same i q (by omega) (by omega)
      · rw [r5 i k (by omega)]; exact same i k (by omega) (by omega)
      · rw [r4 i q (by omega) (by omega) (by omega) (by omega)]; exact same i q (by omega) (by omega)
      · rw [r4 60 N (by omega) (by omega) (by omega) (by omega)]; exact w5
      · rw [r4 61 N (by omega) (by omega) (by omega) (by omega)]; exact w6
      · rw [r4 62 N (by omega) (by omega) (by omega) (by omega)]; exact w7
      · rw [r4 66 N (by omega) (by omega) (by omega) (by omega)]; exact w8
      · rw [r4 67 N (by omega) (by omega) (by omega) (by omega)]; exact w9
      · refine Or.inr (Or.inl ⟨?_, ?_, ?_, ?_, ?_⟩)
        · rw [r4 57 N (by omega) (by omega) (by omega) (by omega), w3]; exact hkd
        · rw [s9]; omega
        · rw [s8]; omega
        · rw [r4 63 N (by omega) (by omega) (by omega) (by omega), w4, s9, s8]
        · rw [s4, s5]; omega
end NewParts2
