/-! PLATE: the class, whole -/
theorem smR_cg {c c' X X' Y Y' Z Z' : Nat → Int} {k : Nat} (hc : c' k = c k) (hb : 3 ≤ c k ∧ c k ≤ 8) (hX : ∀ q, q < 8 * k + 8 → X' q = X q) (hY : ∀ q, q < 8 * k + 8 → Y' q = Y q) (hZ : ∀ q, q < 8 * k + 8 → Z' q = Z q) : ∀ m : Nat, m ≤ 8 → smR c' X' Y' Z' k m = smR c X Y Z k m
  | 0, _ => rfl
  | m + 1, hm => by
    have := Nat.mod_lt (m + 1) (show 0 < (c k).toNat by omega)
    unfold smR
    rw [smR_cg hc hb hX hY hZ m (by omega), hc, hX _ (by omega), hX _ (by omega), hY _ (by omega), hY _ (by omega), hZ _ (by omega), hZ _ (by omega)]
theorem mdl_cg {a a' : Hp} {k : Nat} (hc : a' 68 k = a 68 k) (hb : 3 ≤ a 68 k ∧ a 68 k ≤ 8) (hX : ∀ q, q < 8 * k + 8 → a' 69 q = a 69 q) (hY : ∀ q, q < 8 * k + 8 → a' 70 q = a 70 q) (w : Nat) : mdl a' k w = mdl a k w := by
  unfold mdl mdR
  rw [hc, twR_cg hc hb hX hY _ (by omega), smR_cg (Z := if w < 2 then a 69 else a 70) hc hb hX hY (fun q hq => by split <;> first | exact hX q hq | exact hY q hq) _ (by omega)]
theorem CQ.cgp {n : Nat} {dy : Nat → Shp} {a : Hp} {g3 : Nat → Int} {u : Nat → Nat → Int} {a' : Hp} {k : Nat} (h : CQ n dy g3 u a k) (hr : ∀ i, 57 ≤ i → i ≤ 67 → a' i k = a i k) (hm : a 57 k = 4 → ∀ w, mdl a' k w = mdl a k w) : CQ n dy g3 u a' k := by
  unfold CQ at h ⊢
  rw [hr 57 (by omega) (by omega), hr 58 (by omega) (by omega), hr 59 (by omega) (by omega), hr 60 (by omega) (by omega), hr 61 (by omega) (by omega), hr 62 (by omega) (by omega), hr 63 (by omega) (by omega), hr 64 (by omega) (by omega), hr 65 (by omega) (by omega), hr 66 (by omega) (by omega), hr 67 (by omega) (by omega)]
  obtain ⟨h1, h2, h3, h4, h5, h6⟩ := h
  refine ⟨h1, h2, h3, h4, h5, fun e => ?_⟩
  rw [hm e, hm e, hm e, hm e]; exact h6 e
section PlateC3
variable {d n : Nat} {dy : Nat → Shp} {g a G : Hp} {P : Pst}
theorem Ca.newP {ci N : Nat} {g' a' : Hp} (hC : Ca n dy g a) (hI : Inv a) (eN : a 53 5 = (N : Int)) (h0 : g' 1 2 = a 53 5 + 1 ∧ g' 1 3 = a' 53 0 ∧ g' 1 11 = g 1 11) (h3 : ∀ q, g' 3 q = if q = N then (n : Int) else g 3 q) (hg : ∀ i q, i < n → i ≠ 1 → i ≠ 3 → g' i q = g i q)
    (a5 : a' 53 5 = a 53 5 + 1) (ha : a' 53 26 = a 53 26 ∧ a' 53 29 = a 53 29 ∧ ∀ i q, (i = 54 ∨ i = 55 ∨ i = 56 ∨ i = 77 ∨ i = 78) → a' i q = a i q) (hr : ∀ i (k : Nat), 57 ≤ i → i ≤ 67 → k < N → a' i k = a i k) (hm : ∀ k : Nat, k < N → a 57 k = 4 → ∀ w, mdl a' k w = mdl a k w)
    (hnew : CQ (n + 1) (dyu dy n ci) (g' 3) (fun j q => g' (g' 3 j).toNat q) a' N) : Ca (n + 1) (dyu dy n ci) g' a' := by
  have hn := hC.1
  refine hC.mk' (by omega) ⟨by rw [h0.1, a5], h0.2.1⟩ (fun i q h => ?_) ha (fun k hk => ?_)
  · by_cases c : i = 1
    · have : q = 11 := by omega
      subst c this; exact h0.2.2
    · exact hg i q (by omega) c (by omega)
  · rw [a5, eN] at hk
    by_cases c : k < N
    · have hk' : (k : Int) < a 53 5 := by omega
      have hp : CQ n dy (g 3) (fun j q => g (g 3 j).toNat q) a k := hC.2.2.2.1 k hk'
      have hb := hC.cell hk'
      have hPI := (hI.2.2.1 k hk').1
      have e3 : g' 3 k = g 3 k := by rw [h3 k, if_neg (by omega)]
      refine CQ.cgp (a := a) ?_ (fun i h1 h2 => hr i k h1 h2 c) (hm k c)
      refine CQ.cong hp (by omega) e3 ?_ (fun j hj => ?_) (fun q _ => ?_)
      · show dyu dy n ci (g 3 k).toNat = dy (g 3 k).toNat
        exact if_neg (by omega)
      · unfold rfx
        by_cases z : j < 0
        · rw [if_pos z, if_pos z]
        · rw [if_neg z, if_neg z, h3 j.toNat, if_neg]
          have h1 := hPI.1.2
          have h2 := hPI.2.2.2.1.2.1
          have h3 := hPI.2.2.2.2.2.1
          omega
      · show g' (g' 3 k).toNat q = g (g 3 k).toNat q
        rw [e3]
        exact hg _ q (by omega) (by omega) (by omega)
    · have : k = N := by omega
      subst this
      exact hnew
theorem cs_plate {x1 x2 : Int} (hC : Ca n dy g a) (hI : Inv a) (h1 : i3 x1) (h2 : i3 x2) (h : ∀ v a' n' dy' g', opPlate (up2 a 53 0 0) x1 x2 = (v, a') → Ca n' dy' g' a' → Kr g g' → P (some (I_ v)) n' (W0 dy') g') : Runs maX11_plate (d + 5) [.ref 1, I_ x1, I_ x2] n (W0 dy) g P := by
  have hn := hC.1
  have e2 := hC.2.1.1
  have hN := hI.1
  have no : ∀ T : Int, i3 T → T ≠ 0 → plI a x1 x2 = T → ∀ G, (∀ i q, i ≠ 6 → i ≠ 7 → i ≠ 8 → G i q = g i q) → ∀ (Q : Pst), (∀ G', P (some (I_ (-1))) n (W0 dy) G' → Q (some (I_ (-1))) n (W0 dy) G') → Runs miX11_none (d + 4) [.ref 1, I_ T] n (W0 dy) G Q := fun T hT3 hT0 e G hG Q hQ => by
    have e' : plI (up2 a 53 0 0) x1 x2 = T := e
    have e2 : opPlate (up2 a 53 0 0) x1 x2 = (-1, up2 (up2 a 53 0 0) 53 0 T) := by
      unfold opPlate
      rw [e']; exact if_pos hT0
    have hCG : Ca n dy G a := hC.keep fun i q hi => hG i q (by unfold cl at hi; omega) (by unfold cl at hi; omega) (by unfold cl at hi; omega)
    exact wX11_none hn ⟨hT3, hQ _ (h _ _ _ _ _ e2 (hCG.st2 0 T) (fun i q hi => by rw [up2_i (by omega), hG i q (by omega) (by omega) (by omega)]))⟩
  have rf0 : ∀ i q, i ≠ 6 → i ≠ 7 → i ≠ 8 → g i q = g i q := fun _ _ _ _ _ => rfl
  have un : plI a x1 x2 = if x1 < 0 ∨ 6 ≤ x1 then 1 else if a 55 x1.toNat < 0 then 3 else if x2 < 3 ∨ 8 < x2 then 7 else if a 55 x1.toNat < 2 * x2 then 4 else @ite Int (¬ okN a x1.toNat x2.toNat) (Classical.propDecidable _) 7 (@ite Int (¬ RG x2.toNat (cX a x1.toNat) (cY a x1.toNat)) (Classical.propDecidable _) 12 (if a 53 5 = 60 then 10 else 0)) := rfl
  refine waX11_plate hn (cs_trayAt hC h1 ⟨fun c => baX11_plate_5 hn ⟨fun q => absurd q (Nat.lt_irrefl 0), fun _ => no 1 (by decide) (by decide) (un.trans (if_pos c)) g rf0 _ fun G' hp => baX11_plate_15 hn hp⟩, fun c1 c2 => ?_⟩)
  have un := un.trans (if_neg (by omega))
  obtain ⟨t, rfl⟩ := exN c1
  have ht : t < 6 := by omega
  have tr := tr_ok (dy := dy) hn ht
  show V maX11_plate (d + 5) 5 [(0, .ref 1), (1, I_ (t : Int)), (2, I_ x2)] [.ref (41 + 2 * t)] n (W0 dy) g 0 0 P
  refine baX11_plate_5 hn ⟨fun _ => ⟨tr, ?_⟩, fun q => by omega⟩
  rcases hC.tk hI ht with ⟨k1, k2⟩ | ⟨k1, k2, k3, k4, k5⟩
  · exact wX9_isMissing hn ⟨tr, fun q => absurd k2 q, fun _ => baX11_plate_20 hn ⟨by decide, fun q => absurd q (by decide), fun _ => no 3 (by decide) (by decide) (un.trans (if_pos (show a 55 t < 0 by omega))) g rf0 _ fun G' hp => baX11_plate_28 hn hp⟩⟩
  have un := un.trans (if_neg (show ¬ a 55 t < 0 by omega))
  refine wX9_isMissing hn ⟨tr, fun _ => ?_, fun q => by omega⟩
  refine v_rng fun wr => ?_
  have r6 : ∀ q : Nat, (q : Int) < a 55 t → i6 (a 56 (16 * t + q)) := fun q hq => by
    rw [← k5 q hq]
    have := wr (42 + 2 * t) q (by omega) (by omega)
    rw [show 42 + 2 * t = 41 + 2 * t + 1 by omega, tr.2.2.2.2.2.2.1] at this
    rw [show 42 + 2 * t = 41 + 2 * t + 1 by omega]
    exact this
  clear wr
  have n7 : (x2 < 3 ∨ 8 < x2) → Runs miX11_none (d + 4) [.ref 1, I_ 7] n (W0 dy) g (fun v n' S' g' => V maX11_plate (d + 5) 46 [(0, .ref 1), (1, I_ (t : Int)), (2, I_ x2), (3, .ref (41 + 2 * t))] (v.toList ++ []) n' S' g' 0 0 P) := fun c => no 7 (by decide) (by decide) (un.trans (if_pos c)) g rf0 _ fun G' hp => baX11_plate_46 hn hp
  refine baX11_plate_20 hn ⟨by decide, fun _ => ⟨h2, fun c => n7 (Or.inl c), fun c4 => ⟨fun c5 => ⟨tr, ⟨by omega, by omega⟩, fun c6 => ?_, fun c6 => ?_⟩, fun c => n7 (Or.inr c)⟩⟩, fun q => absurd rfl q⟩
  · clear n7
    have un := (un.trans (if_neg (show ¬ (x2 < 3 ∨ 8 < x2) by omega))).trans (if_neg (show ¬ a 55 t < 2 * x2 by omega))
    obtain ⟨m, rfl⟩ := exN (show 0 ≤ x2 by omega)
    refine cs_draw hC hI (fun q hq => r6 q (by omega)) ht (by omega) (by omega) (fun z G hG => baX11_plate_72 hn ⟨by decide, fun q => absurd rfl q, fun _ => no 7 (by decide) (by decide) (un.trans (if_pos z)) G hG _ fun G' hp => baX11_plate_81 hn hp⟩) (fun z G hG g6 g78 => ?_)
    have un := un.trans (if_neg (fun w => w z))
    have cb := okN_c z
    have hRC : RC G m := ⟨g6, by omega, fun q hq => by rw [(g78 q hq).1, (g78 q hq).2]; exact cb q hq⟩
    refine baX11_plate_72 hn ⟨by decide, fun _ => cs_touches hn hRC (fun z2 => ?_) (fun z2 => ?_), fun q => absurd q (by decide)⟩
    · have z3 : RG m (cX a t) (cY a t) := RG_cg (fun i hi => ⟨(g78 i hi).1.symm, (g78 i hi).2.symm⟩) z2
      have un := un.trans (if_neg (fun w => w z3))
      have G12 : G 1 2 = g 1 2 := hG 1 2 (by omega) (by omega) (by omega)
      refine baX11_plate_89 hn ⟨by decide, fun _ => ⟨fun c7 => ?_, fun c7 => no 10 (by decide) (by decide) (un.trans (if_pos (show a 53 5 = 60 by omega))) G hG _ fun G' hp => baX11_plate_114 hn hp⟩, fun q => absurd rfl q⟩
      have un := un.trans (if_neg (show ¬ a 53 5 = 60 by omega))
      have un' : plI (up2 a 53 0 0) (t : Int) (m : Int) = 0 := un
      obtain ⟨N, eN⟩ := exN hN.1
      have hN60 : N < 60 := by omega
      have obn := ob_new (dy := dy) 3 hn
      have pn : Pt (n + 1) (W0 (dyu dy n 3)) n := ⟨obn.1, Or.inl obn.2.1, obn.2.2⟩
      have hn1 : 100 ≤ n + 1 := by omega
      have eA : (up2 a 53 0 0) 53 5 = (N : Int) := eN
      have eop : opPlate (up2 a 53 0 0) (t : Int) (m : Int) = (a 53 5, plS (up2 a 53 0 0) t m) := by
        unfold opPlate
        rw [un']; exact if_neg (fun w => w rfl)
      have u7 : (upr G n (fun _ => 0)) 7 = G 7 := funext fun q => upr_ne (by omega)
      have u8 : (upr G n (fun _ => 0)) 8 = G 8 := funext fun q => upr_ne (by omega)
      have hRC1 : RC (upr G n (fun _ => 0)) m := by
        unfold RC
        rw [u7, u8, upr_ne (show 6 ≠ n by omega)]; exact hRC
      have es : isum (crsS (G 7) (G 8) m) m = isum (crsS (cX a t) (cY a t) m) m := isum_cg fun i hi => by
        have l1 := nx_lt hi
        unfold crsS
        rw [(g78 i hi).1, (g78 i hi).2, (g78 _ l1).1, (g78 _ l1).2]
      have ar : isum (crsS (cX a t) (cY a t) m) m ≠ 0 := ring_area (by omega) z3 cb
      rw [show G 1 2 = (N : Int) by omega]
      refine cs_newPlate (d := d) hn1 hn hRC1 obn pn hN60 (by rw [u7, u8, es]; exact ar) ?_
      rw [u7, u8, es]
      intro G2 k0 k1 k2'
      have hsm : ∀ w, w < 4 → isum (fun i => ((if w < 2 then G 7 else G 8) i + (if w < 2 then G 7 else G 8) (nx_ m i)) * crsS (G 7) (G 8) m i) m = isum (fun i => ((if w < 2 then cX a t else cY a t) i + (if w < 2 then cX a t else cY a t) (nx_ m i)) * crsS (cX a t) (cY a t) m i) m := fun w _ => isum_cg fun i hi => by
        have l1 := nx_lt hi
        unfold crsS
        split <;> rw [(g78 i hi).1, (g78 i hi).2, (g78 _ l1).1, (g78 _ l1).2]
      have old : ∀ i q, i ≠ n → i ≠ 6 → i ≠ 7 → i ≠ 8 → G2 i q = g i q := fun i q i0 i1 i2 i3 => by rw [k0 i q i0, upr_ne i0, hG i q i1 i2 i3]
      obtain ⟨s1, s2, s3, s4⟩ := plS_at (t := t) (m := m) eA
      have emd : ∀ w, w < 4 → G2 n (10 + w) = mdl (plS (up2 a 53 0 0) t m) N w := fun w hw => by
        rw [k2' w hw, hsm w hw]
        refine (mdl_is (A := plS (up2 a 53 0 0) t m) (x := cX a t) (y := cY a t) (N := N) (m := m) (w := w) (by rw [s2, if_pos rfl]) (fun j hj => ?_) (fun j hj => ?_) hw rfl rfl).symm
        · rw [s3, if_pos (by omega), show 8 * N + j - 8 * N = j by omega]; rfl
        · rw [s4, if_pos (by omega), show 8 * N + j - 8 * N = j by omega]; rfl
      clear k2' hsm
      obtain ⟨w1, w2, w3, w4, w5, w6, w7, w8, w9⟩ := nwp_at (kd := 4) (w := ab (isum (crsS (cX (up2 a 53 0 0) t) (cY (up2 a 53 0 0) t) m) m)) eA
      have G212 : G2 1 2 = g 1 2 := old 1 2 (by omega) (by omega) (by omega) (by omega)
      refine baX11_plate_131 hn1 (wX11_added hn1 ⟨fun _ => ⟨by omega, pn, by omega, baX11_plate_134 hn1 ?_⟩, fun q9 => by omega⟩)
      have e0 : up2 G2 3 (G2 1 2).toNat ((n : Nat) : Int) n 0 = a 53 5 := by rw [up2_i (by omega), k1.1, eN]
      rw [e0, G212, show (g 1 2).toNat = N by omega]
      have v63 : nwp (up2 a 53 0 0) 4 (ab (isum (crsS (cX (up2 a 53 0 0) t) (cY (up2 a 53 0 0) t) m) m)) 63 N = ab (isum (crsS (cX a t) (cY a t) m) m) := w4
      have same : ∀ i q, ¬ (i = 53 ∧ q = 5) → ¬ (q = N ∧ (i = 57 ∨ i = 63 ∨ i = 60 ∨ i = 61 ∨ i = 62 ∨ i = 66 ∨ i = 67)) → nwp (up2 a 53 0 0) 4 (ab (isum (crsS (cX (up2 a 53 0 0) t) (cY (up2 a 53 0 0) t) m) m)) i q = (up2 a 53 0 0) i q := fun i q z1 z2 => by
        rcases w2 i q with z | z | z
        · exact absurd z z1
        · exact absurd z z2
        · exact z
      generalize plS (up2 a 53 0 0) t m = A' at *
      have hCG : Ca n dy G a := hC.keep fun i q hi => hG i q (by unfold cl at hi; omega) (by unfold cl at hi; omega) (by unfold cl at hi; omega)
      have nG : ∀ i q, i ≠ n → G2 i q = G i q := fun i q i0 => by rw [k0 i q i0, upr_ne i0]
      refine h _ _ (n + 1) (dyu dy n 3) _ eop (Ca.newP (ci := 3) (N := N) hCG hI eN ⟨?_, ?_, ?_⟩ (fun q => ?_) (fun i q i1 i2 i3 => ?_) ?_ ⟨?_, ?_, fun i q hi => ?_⟩ (fun i k i1 i2 hk => ?_) (fun k hk e4 w => ?_) ?_) (fun i q hi => ?_)
      · rw [up2_k, if_neg (by omega), up2_s, e2]
      · rw [up2_s, s1 53 0 (by omega) (by omega) (by omega), same 53 0 (by omega) (by omega)]; rfl
      · rw [up2_k, if_neg (by omega), up2_k, if_neg (by omega), up2_i (by omega), nG 1 11 (by omega)]
      · rw [up2_i (by omega), up2_i (by omega), up2_k, nG 3 q (by omega)]
      · rw [up2_i i2, up2_i i2, up2_i i3, nG i q (by omega)]
      · rw [s1 53 5 (by omega) (by omega) (by omega)]; exact w1
      · rw [s1 53 26 (by omega) (by omega) (by omega), same 53 26 (by omega) (by omega)]; rfl
      · rw [s1 53 29 (by omega) (by omega) (by omega), same 53 29 (by omega) (by omega)]; rfl
      · rw [s1 i q (by omega) (by omega) (by omega), same i q (by omega) (by omega), up2_i (by omega)]
      · rw [s1 i k (by omega) (by omega) (by omega), same i k (by omega) (by omega), up2_i (by omega)]
      · have KIk := (hI.2.2.1 k (by omega)).2
        rcases KIk with z | z | ⟨-, -, -, -, z5, -⟩
        · omega
        · omega
        · refine mdl_cg ?_ z5 (fun q hq => ?_) (fun q hq => ?_) w
          · rw [s2, if_neg (by omega)]; rfl
          · rw [s3, if_neg (by omega)]; rfl
          · rw [s4, if_neg (by omega)]; rfl
      · have c3 : (up2 (up2 (up2 G2 3 N ((n : Nat) : Int)) 1 2 (g 1 2 + 1)) 1 3 0) 3 N = (n : Int) := by rw [up2_i (by omega), up2_i (by omega), up2_s]
        have cu : ∀ q, (up2 (up2 (up2 G2 3 N ((n : Nat) : Int)) 1 2 (g 1 2 + 1)) 1 3 0) ((n : Nat) : Int).toNat q = G2 n q := fun q => by
          rw [show ((n : Nat) : Int).toNat = n from rfl, up2_i (by omega), up2_i (by omega), up2_i (by omega)]
        have v57 := (s1 57 N (by omega) (by omega) (by omega)).trans w3
        have v63' := (s1 63 N (by omega) (by omega) (by omega)).trans v63
        have v60 := (s1 60 N (by omega) (by omega) (by omega)).trans w5
        have v61 := (s1 61 N (by omega) (by omega) (by omega)).trans w6
        have v62 := (s1 62 N (by omega) (by omega) (by omega)).trans w7
        have dd : dyu dy n 3 n = (3, 0, fun _ => none) := if_pos rfl
        obtain ⟨n0, n1, n2, n3, n4, n5⟩ := k1
        unfold CQ
        simp only [c3, cu, v57, v63', v60, v61, v62]
        refine ⟨by omega, ⟨n0, n1, n2⟩, ⟨by rw [n3]; rfl, n4, n5⟩, fun z => by omega, fun z => by omega, fun _ => ⟨dd, emd 0 (by omega), emd 1 (by omega), emd 2 (by omega), emd 3 (by omega)⟩⟩
      · rw [up2_i (by omega), up2_i (by omega), up2_i (by omega), old i q (by omega) (by omega) (by omega) (by omega)]
    · have z3 : ¬ RG m (cX a t) (cY a t) := fun w => z2 (RG_cg (fun i hi => ⟨(g78 i hi).1, (g78 i hi).2⟩) w)
      exact baX11_plate_89 hn ⟨by decide, fun q => absurd q (by decide), fun _ => no 12 (by decide) (by decide) (un.trans (if_pos z3)) G hG _ fun G' hp => baX11_plate_98 hn hp⟩
  · exact no 4 (by decide) (by decide) ((un.trans (if_neg (show ¬ (x2 < 3 ∨ 8 < x2) by omega))).trans (if_pos (show a 55 t < 2 * x2 by omega))) g rf0 _ fun G' hp => baX11_plate_62 hn hp
end PlateC3
