/-! NEW PARTS -/
section NewParts
variable {d n : Nat} {dy : Nat → Shp} {g a : Hp} {P : Pst}
theorem CQ.cga {g3 : Nat → Int} {u : Nat → Nat → Int} {a' : Hp} {k : Nat} (h : CQ n dy g3 u a k) (hr : ∀ i, 57 ≤ i → i ≤ 67 → a' i k = a i k) (hm : ∀ w, mdl a' k w = mdl a k w) : CQ n dy g3 u a' k := by
  unfold CQ at h ⊢
  rw [hr 57 (by omega) (by omega), hr 58 (by omega) (by omega), hr 59 (by omega) (by omega), hr 60 (by omega) (by omega), hr 61 (by omega) (by omega), hr 62 (by omega) (by omega), hr 63 (by omega) (by omega), hr 64 (by omega) (by omega), hr 65 (by omega) (by omega), hr 66 (by omega) (by omega), hr 67 (by omega) (by omega), hm, hm, hm, hm]
  exact h
/-- one part more, its cell the newest -/
theorem Ca.new {ci N : Nat} {g' a' : Hp} (hC : Ca n dy g a) (hI : Inv a) (eN : a 53 5 = (N : Int)) (h0 : g' 1 2 = a 53 5 + 1 ∧ g' 1 3 = a' 53 0 ∧ g' 1 11 = g 1 11) (h3 : ∀ q, g' 3 q = if q = N then (n : Int) else g 3 q) (hg : ∀ i q, i < n → i ≠ 1 → i ≠ 3 → g' i q = g i q)
    (a5 : a' 53 5 = a 53 5 + 1) (ha : a' 53 26 = a 53 26 ∧ a' 53 29 = a 53 29 ∧ ∀ i q, (i = 54 ∨ i = 55 ∨ i = 56 ∨ i = 77 ∨ i = 78) → a' i q = a i q) (hr : ∀ i (k : Nat), 57 ≤ i → i ≤ 67 → k < N → a' i k = a i k) (hm : ∀ k : Nat, k < N → ∀ w, mdl a' k w = mdl a k w)
    (hnew : CQ (n + 1) (dyu dy n ci) (g' 3) (fun j q => g' (g' 3 j).toNat q) a' N) : Ca (n + 1) (dyu dy n ci) g' a' := by
  have hn := hC.1
  refine hC.mk' (by omega) ⟨by rw [h0.1, a5], h0.2.1⟩ (fun i q h => ?_) ha (fun k hk => ?_)
  · by_cases c : i = 1
    · have : q = 11 := by omega
      subst c this; exact h0.2.2
    · exact hg i q (by omega) c (by omega)
  · rw [a5, eN] at hk
    by_cases c : k < N
    · have hk' : (k : Int) < a 53 5 := by omega
      have hp : CQ n dy (g 3) (fun j q => g (g 3 j).toNat q) a k := hC.2.2.2.1 k hk'
      have hb := hC.cell hk'
      have hPI := (hI.2.2.1 k hk').1
      have e3 : g' 3 k = g 3 k := by rw [h3 k, if_neg (by omega)]
      refine CQ.cga (a := a) ?_ (fun i h1 h2 => hr i k h1 h2 c) (hm k c)
      refine CQ.cong hp (by omega) e3 ?_ (fun j hj => ?_) (fun q _ => ?_)
      · show dyu dy n ci (g 3 k).toNat = dy (g 3 k).toNat
        exact if_neg (by omega)
      · unfold rfx
        by_cases z : j < 0
        · rw [if_pos z, if_pos z]
        · rw [if_neg z, if_neg z, h3 j.toNat, if_neg]
          have h1 := hPI.1.2
          have h2 := hPI.2.2.2.1.2.1
          have h3 := hPI.2.2.2.2.2.1
          omega
      · show g' (g' 3 k).toNat q = g (g 3 k).toNat q
        rw [e3]
        exact hg _ q (by omega) (by omega) (by omega)
    · have : k = N := by omega
      subst this
      exact hnew
theorem twR_cg {c c' X X' Y Y' : Nat → Int} {k : Nat} (hc : c' k = c k) (hb : 3 ≤ c k ∧ c k ≤ 8) (hX : ∀ q, q < 8 * k + 8 → X' q = X q) (hY : ∀ q, q < 8 * k + 8 → Y' q = Y q) : ∀ m : Nat, m ≤ 8 → twR c' X' Y' k m = twR c X Y k m
  | 0, _ => rfl
  | m + 1, hm => by
    have := Nat.mod_lt (m + 1) (show 0 < (c k).toNat by omega)
    unfold twR
    rw [twR_cg hc hb hX hY m (by omega), hc, hX _ (by omega), hX _ (by omega), hY _ (by omega), hY _ (by omega)]
theorem Inv.new {N : Nat} {a' : Hp} (hI : Inv a) (eN : a 53 5 = (N : Int)) (hN : N < 60) (a5 : a' 53 5 = a 53 5 + 1) (ha : a' 53 26 = a 53 26 ∧ a' 53 29 = a 53 29 ∧ ∀ i q, (i = 54 ∨ i = 55 ∨ i = 56 ∨ i = 77 ∨ i = 78) → a' i q = a i q) (hr : ∀ i (k : Nat), 57 ≤ i → i ≤ 68 → k < N → a' i k = a i k) (h69 : ∀ i q, i = 69 ∨ i = 70 → q < 8 * N → a' i q = a i q)
    (hnew : a' 60 N = -1 ∧ a' 61 N = -1 ∧ a' 62 N = 0 ∧ a' 66 N = -1 ∧ a' 67 N = -1) (hK : KI a' N) : Inv a' := by
  obtain ⟨dp, hD⟩ := hI.dp
  have hpr := hI.pr
  obtain ⟨i1, i2, i3_, i4, ⟨i5, i5'⟩, i6_⟩ := hI
  obtain ⟨a1, a2, a3⟩ := ha
  have eT : (a 53 5).toNat = N := by omega
  unfold Inv
  rw [a5, a1, a2]
  refine ⟨by omega, fun t ht => ?_, fun k hk => ⟨?_, ?_⟩, ?_, ⟨i5, fun i hi => ?_⟩, i6_⟩
  · unfold TI; rw [a3 55 t (by omega), a3 54 t (by omega)]; exact i2 t ht
  · have h9 := PR_new (N := a 53 5) (kd := a 57) (on := a 60) (at_ := a 61) (th := a 62) (lf := a 66) (rt := a 67) (kd' := a' 57) (on' := a' 60) (at' := a' 61) (th' := a' 62) (lf' := a' 66) (rt' := a' 67) (by omega) (fun j hj => ⟨hr 57 j (by omega) (by omega) (by omega), hr 60 j (by omega) (by omega) (by omega), hr 61 j (by omega) (by omega) (by omega), hr 62 j (by omega) (by omega) (by omega), hr 66 j (by omega) (by omega) (by omega), hr 67 j (by omega) (by omega) (by omega)⟩) (by rw [eT]; exact hnew) hpr k hk
    unfold PI
    rw [a5]
    exact h9
  · by_cases c : k < N
    · have := (i3_ k (by omega)).2
      unfold KI at this ⊢
      rw [hr 57 k (by omega) (by omega) c, hr 58 k (by omega) (by omega) c, hr 59 k (by omega) (by omega) c, hr 63 k (by omega) (by omega) c, hr 64 k (by omega) (by omega) c, hr 65 k (by omega) (by omega) c, hr 66 k (by omega) (by omega) c, hr 67 k (by omega) (by omega) c, hr 68 k (by omega) (by omega) c]
      rcases this with z | z | ⟨z1, z2, z3, z4, z5, z6, z7⟩
      · exact Or.inl z
      · exact Or.inr (Or.inl z)
      · refine Or.inr (Or.inr ⟨z1, z2, z3, z4, z5, fun j hj => ?_, ?_⟩)
        · rw [h69 69 _ (by omega) (by omega), h69 70 _ (by omega) (by omega)]
          exact z6 j hj
        · rw [twR_cg (hr 68 k (by omega) (by omega) c) z5 (fun q hq => h69 69 q (by omega) (by omega)) (fun q hq => h69 70 q (by omega) (by omega)) _ (by omega)]
          exact z7
    · have : k = N := by omega
      subst this; exact hK
  · refine Fo.more hD (by omega) (fun k hk => hr 60 k (by omega) (by omega) (by omega)) ?_
    rw [eT, hnew.1]; decide
  · rw [a3 77 i (by omega)]
    have := i5' i hi
    omega
theorem nwp_at {A : Hp} {N : Nat} {kd w : Int} (eN : A 53 5 = (N : Int)) : nwp A kd w 53 5 = A 53 5 + 1 ∧ (∀ i q, (i = 53 ∧ q = 5) ∨ (q = N ∧ (i = 57 ∨ i = 63 ∨ i = 60 ∨ i = 61 ∨ i = 62 ∨ i = 66 ∨ i = 67)) ∨ nwp A kd w i q = A i q) ∧ nwp A kd w 57 N = kd ∧ nwp A kd w 63 N = w ∧ nwp A kd w 60 N = -1 ∧ nwp A kd w 61 N = -1 ∧ nwp A kd w 62 N = 0 ∧ nwp A kd w 66 N = -1 ∧ nwp A kd w 67 N = -1 := by
  have eT : (A 53 5).toNat = N := by omega
  unfold nwp
  rw [eT]
  refine ⟨rfl, fun i q => ?_, ?_, ?_, ?_, ?_, ?_, ?_, ?_⟩
  · simp only [up2_ap]
    by_cases c1 : i = 53 ∧ q = 5
    · exact Or.inl c1
    · by_cases c2 : q = N ∧ (i = 57 ∨ i = 63 ∨ i = 60 ∨ i = 61 ∨ i = 62 ∨ i = 66 ∨ i = 67)
      · exact Or.inr (Or.inl c2)
      · refine Or.inr (Or.inr ?_)
        rw [if_neg c1, if_neg (by omega), if_neg (by omega), if_neg (by omega), if_neg (by omega), if_neg (by omega), if_neg (by omega), if_neg (by omega)]
  all_goals simp [up2_ap]
/-- the cell of a new part, as the constructors of Part fill it -/
def nc2 (g : Hp) (c : Nat) (x1 x2 x3 : Int) : Hp := up2 (up2 (up2 (up2 (up2 (up2 (up2 (up2 (up2 (up2 g c 3 (((0 : Nat) : Int))) c 4 ((-1))) c 5 0) c 6 0) c 7 0) c 8 0) c 9 0) c 0 x1) c 1 x2) c 2 x3
theorem nc2_at {c : Nat} {x1 x2 x3 : Int} : nc2 g c x1 x2 x3 c 0 = x1 ∧ nc2 g c x1 x2 x3 c 1 = x2 ∧ nc2 g c x1 x2 x3 c 2 = x3 ∧ nc2 g c x1 x2 x3 c 3 = 0 ∧ nc2 g c x1 x2 x3 c 4 = -1 ∧ nc2 g c x1 x2 x3 c 5 = 0 ∧ (∀ i q, i ≠ c → nc2 g c x1 x2 x3 i q = g i q) ∧ ∀ q, 10 ≤ q → nc2 g c x1 x2 x3 c q = g c q := by
  unfold nc2
  refine ⟨?_, ?_, ?_, ?_, ?_, ?_, fun i q h => ?_, fun q h => ?_⟩
  any_goals (simp [up2_ap]; done)
  · simp only [up2_ap]
    rw [if_neg (by omega), if_neg (by omega), if_neg (by omega), if_neg (by omega), if_neg (by omega), if_neg (by omega), if_neg (by omega), if_neg (by omega), if_neg (by omega), if_neg (by omega)]
  · simp only [up2_ap]
    rw [if_neg (by omega), if_neg (by omega), if_neg (by omega), if_neg (by omega), if_neg (by omega), if_neg (by omega), if_neg (by omega), if_neg (by omega), if_neg (by omega), if_neg (by omega)]
theorem cs_newWeight {x1 : Int} (hC : Ca n dy g a) (hI : Inv a) (h1 : i6 x1) (h : ∀ v a' n' dy' g', nwW (up2 a 53 0 0) x1 = (v, a') → Ca n' dy' g' a' → Kr g g' → P (some (I_ v)) n' (W0 dy') g') : Runs maX11_newWeight (d + 3) [.ref 1, L_ x1] n (W0 dy) g P := by
  have hn := hC.1
  have e2 := hC.2.1.1
  have hN := hI.1
  have kr : ∀ w, Kr g (up2 g 1 3 w) := fun w => (Kr.refl g).up (by omega)
  have no7 : (x1 < 1 ∨ 1000000 < x1) → Runs miX11_none (d + 2) [.ref 1, I_ 7] n (W0 dy) g (fun v n' S' g' => V maX11_newWeight (d + 3) 20 [(0, .ref 1), (1, L_ x1)] (v.toList ++ []) n' S' g' 0 0 P) := fun c => by
    refine wX11_none hn ⟨by decide, baX11_newWeight_20 hn (h _ _ n dy _ ?_ (hC.st2 0 7) (kr 7))⟩
    unfold nwW; exact if_pos c
  refine waX11_newWeight hn ⟨h1, fun q => no7 (Or.inl q), fun q => ⟨fun q2 => ⟨fun q3 => ?_, fun q3 => ?_⟩, fun q2 => no7 (Or.inr q2)⟩⟩
  · clear no7
    obtain ⟨N, eN⟩ := exN hN.1
    have hN60 : N < 60 := by omega
    have obn := ob_new (dy := dy) 9 hn
    have pn : Pt (n + 1) (W0 (dyu dy n 9)) n := ⟨obn.1, Or.inr (Or.inr obn.2.1), obn.2.2⟩
    have hn1 : 100 ≤ n + 1 := by omega
    have eA : (up2 a 53 0 0) 53 5 = (N : Int) := eN
    have eop : nwW (up2 a 53 0 0) x1 = (a 53 5, nwp (up2 a 53 0 0) 1 x1) := by
      unfold nwW; exact (if_neg (by omega)).trans (if_neg (show ¬ a 53 5 = 60 by omega))
    obtain ⟨w1, w2, w3, w4, w5, w6, w7, w8, w9⟩ := nwp_at (kd := 1) (w := x1) eA
    refine wX10_init hn1 ⟨pn, wX2_init hn1 ⟨pn, by omega, by decide, by omega, bX10_init_7 hn1 (baX11_newWeight_51 hn1 ?_)⟩⟩
    obtain ⟨n0, n1, n2, n3, n4, n5, n6, n7⟩ := @nc2_at (upr g n (fun _ => 0)) n (g 1 2) 1 x1
    have f12 : nc2 (upr g n (fun _ => 0)) n (g 1 2) 1 x1 1 2 = g 1 2 := by rw [n6 1 2 (by omega), upr_ne (by omega)]
    show Runs miX11_added (d + 2) [.ref 1, .ref n] (n + 1) (W0 (dyu dy n 9)) (nc2 (upr g n (fun _ => 0)) n (g 1 2) 1 x1) _
    have old : ∀ i q, i ≠ n → nc2 (upr g n (fun _ => 0)) n (g 1 2) 1 x1 i q = g i q := fun i q hi => by rw [n6 i q hi, upr_ne hi]
    generalize nc2 (upr g n (fun _ => 0)) n (g 1 2) 1 x1 = G at *
    refine wX11_added hn1 ⟨fun _ => ⟨by omega, pn, by omega, baX11_newWeight_54 hn1 ?_⟩, fun q9 => by omega⟩
    have e0 : up2 G 3 (G 1 2).toNat ((n : Nat) : Int) n 0 = a 53 5 := by rw [up2_i (by omega), n0, e2]
    rw [e0, f12]
    have eT : (g 1 2).toNat = N := by omega
    rw [eT]
    refine h _ _ (n + 1) (dyu dy n 9) _ eop (Ca.new (ci := 9) (N := N) hC hI eN ⟨?_, ?_, ?_⟩ (fun q => ?_) (fun i q i1 i2 i3 => ?_) w1 ⟨?_, ?_, fun i q hi => ?_⟩ (fun i k i1 i2 hk => ?_) (fun k hk w => ?_) ?_) (fun i q hi => ?_)
    · rw [up2_k, if_neg (by omega), up2_s, e2]
    · rw [up2_s]
      rcases w2 53 0 with z | z | z
      · omega
      · omega
      · rw [z]; rfl
    · rw [up2_k, if_neg (by omega), up2_k, if_neg (by omega), up2_i (by omega), old 1 11 (by omega)]
    · rw [up2_i (by omega), up2_i (by omega), up2_k, old 3 q (by omega)]
    · rw [up2_i i2, up2_i i2, up2_i i3, old i q (by omega)]
    · rcases w2 53 26 with z | z | z
      · omega
      · omega
      · rw [z]; rfl
    · rcases w2 53 29 with z | z | z
      · omega
      · omega
      · rw [z]; rfl
    · rcases w2 i q with z | z | z
      · omega
      · omega
      · rw [z, up2_i (by omega)]
    · rcases w2 i k with z | z | z
      · omega
      · omega
      · rw [z, up2_i (by omega)]
    · have r : ∀ i, (i = 68 ∨ i = 69 ∨ i = 70) → nwp (up2 a 53 0 0) 1 x1 i = a i := fun i hi => funext fun q => by
        rcases w2 i q with z | z | z
        · omega
        · omega
        · rw [z, up2_i (by omega)]
      unfold mdl
      rw [r 68 (by omega), r 69 (by omega), r 70 (by omega)]
    · have c3 : (up2 (up2 (up2 G 3 N ((n : Nat) : Int)) 1 2 (g 1 2 + 1)) 1 3 0) 3 N = (n : Int) := by rw [up2_i (by omega), up2_i (by omega), up2_s]
      have cu : ∀ q, (up2 (up2 (up2 G 3 N ((n : Nat) : Int)) 1 2 (g 1 2 + 1)) 1 3 0) ((n : Nat) : Int).toNat q = G n q := fun q => by
        rw [show ((n : Nat) : Int).toNat = n from rfl, up2_i (by omega), up2_i (by omega), up2_i (by omega)]
      unfold CQ
      simp only [c3, cu, w3, w4, w5, w6, w7, w8, w9]
      refine ⟨by omega, ⟨by rw [n0, e2, eN], n1, n2⟩, ⟨by rw [n3]; rfl, n4, n5⟩, fun _ => ?_, fun z => by omega, fun z => by omega⟩
      show dyu dy n 9 n = _
      exact if_pos rfl
    · rw [up2_i (by omega), up2_i (by omega), up2_i (by omega), old i q (by omega)]
  · refine wX11_none hn ⟨by decide, baX11_newWeight_36 hn (h _ _ n dy _ ?_ (hC.st2 0 10) (kr 10))⟩
    unfold nwW; exact (if_neg (by omega)).trans (if_pos (show a 53 5 = 60 by omega))
end NewParts
