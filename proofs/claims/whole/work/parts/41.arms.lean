/-! ARMS -/
section Arms
variable {d n : Nat} {dy : Nat → Shp} {g a : Hp} {P : Pst}
def armI (a : Hp) (r : Nat) (e : Int) : Int := if e = 0 then (a 59 r * a 64 r).tdiv (a 65 r) else a 59 r - (a 59 r * a 64 r).tdiv (a 65 r)
def whI (a : Hp) (r : Nat) : Int := if (a 59 r * a 64 r).tmod (a 65 r) = 0 then 1 else 0
/-- the rods above k, up to the one that hangs on s: whether all are whole, their arms' sum, the longest -/
def msr (a : Hp) (s : Int) : Nat → Nat → Int × Int × Int → Int × Int × Int
  | 0, _, t => t
  | f + 1, k, t => if a 60 k < 0 ∨ a 60 k = s then t else msr a s f (a 60 k).toNat (if t.1 = 0 then 0 else whI a (a 60 k).toNat, t.2.1 + armI a (a 60 k).toNat (a 61 k), max t.2.2 (armI a (a 60 k).toNat (a 61 k)))
theorem rod_b (hI : Inv a) {r : Nat} (hr : (r : Int) < a 53 5) (hk : a 57 r = 2 ∨ a 57 r = 3) : (2 ≤ a 59 r ∧ a 59 r ≤ 1000) ∧ (1 ≤ a 64 r ∧ a 64 r < a 65 r ∧ a 65 r ≤ 1920000000) ∧ (0 ≤ a 59 r * a 64 r ∧ a 59 r * a 64 r ≤ 1920000000000) ∧ (0 ≤ (a 59 r * a 64 r).tdiv (a 65 r) ∧ (a 59 r * a 64 r).tdiv (a 65 r) < a 59 r) ∧ (0 ≤ (a 59 r * a 64 r).tmod (a 65 r) ∧ (a 59 r * a 64 r).tmod (a 65 r) < a 65 r) ∧ (0 ≤ a 58 r ∧ a 58 r ≤ 1000) := by
  have hK := (hI.2.2.1 r hr).2
  rcases hK with z | z | z
  · omega
  · obtain ⟨z1, z2, z3, z4, z5⟩ := z
    have m0 : 0 ≤ a 59 r * a 64 r := Int.mul_nonneg (by omega) (by omega)
    have m1 : a 59 r * a 64 r ≤ 1000 * 1920000000 := Int.mul_le_mul z2.2 (by omega) (by omega) (by omega)
    have m2 : a 59 r * a 64 r < a 59 r * a 65 r := Int.mul_lt_mul_of_pos_left z5.2.1 (by omega)
    refine ⟨z2, z5, ⟨m0, by omega⟩, ⟨?_, ?_⟩, ⟨Int.tmod_nonneg _ m0, Int.tmod_lt_of_pos _ (by omega)⟩, z3⟩
    · rw [Int.tdiv_eq_ediv_of_nonneg m0]; exact Int.ediv_nonneg m0 (by omega)
    · rw [Int.tdiv_eq_ediv_of_nonneg m0]; exact Int.ediv_lt_of_lt_mul (by omega) m2
  · omega
theorem armI_b (hI : Inv a) {r : Nat} (hr : (r : Int) < a 53 5) (hk : a 57 r = 2 ∨ a 57 r = 3) (e : Int) : 0 ≤ armI a r e ∧ armI a r e ≤ 1000 := by
  obtain ⟨h1, h2, h3, h4, h5, h6⟩ := rod_b hI hr hk
  unfold armI
  split <;> omega
theorem whI_b (r : Nat) : whI a r = 0 ∨ whI a r = 1 := by unfold whI; split <;> omega
theorem msr_st {dp : Nat → Nat} {N : Int} {s : Int} (hD : DP N (a 60) dp) : ∀ (f f' k : Nat) (t : Int × Int × Int), (k : Int) < N → dp k ≤ f → dp k ≤ f' → msr a s f k t = msr a s f' k t
  | 0, 0, _, _, _, _, _ => rfl
  | 0, f' + 1, k, t, hk, h1, _ => by
    show t = if a 60 k < 0 ∨ a 60 k = s then t else _
    rw [if_pos]
    by_cases c : a 60 k < 0
    · exact Or.inl c
    · have := (hD k hk).2.2.2 (by omega); omega
  | f + 1, 0, k, t, hk, _, h2 => by
    show (if a 60 k < 0 ∨ a 60 k = s then t else _) = t
    rw [if_pos]
    by_cases c : a 60 k < 0
    · exact Or.inl c
    · have := (hD k hk).2.2.2 (by omega); omega
  | f + 1, f' + 1, k, t, hk, h1, h2 => by
    show (if a 60 k < 0 ∨ a 60 k = s then t else msr a s f (a 60 k).toNat _) = if a 60 k < 0 ∨ a 60 k = s then t else msr a s f' (a 60 k).toNat _
    by_cases c : a 60 k < 0 ∨ a 60 k = s
    · rw [if_pos c, if_pos c]
    · rw [if_neg c, if_neg c]
      have h3 := (hD k hk).2.2.2 (by omega)
      exact msr_st hD f f' _ _ (by have := (hD k hk).1; omega) (by omega) (by omega)
theorem msr_eq {dp : Nat → Nat} {N : Int} {s : Int} (hD : DP N (a 60) dp) (hN : N ≤ 60) {k : Nat} (hk : (k : Int) < N) (t : Int × Int × Int) : msr a s 60 k t = if a 60 k < 0 ∨ a 60 k = s then t else msr a s 60 (a 60 k).toNat (if t.1 = 0 then 0 else whI a (a 60 k).toNat, t.2.1 + armI a (a 60 k).toNat (a 61 k), max t.2.2 (armI a (a 60 k).toNat (a 61 k))) := by
  show (if a 60 k < 0 ∨ a 60 k = s then t else msr a s 59 (a 60 k).toNat _) = _
  by_cases c : a 60 k < 0 ∨ a 60 k = s
  · rw [if_pos c, if_pos c]
  · rw [if_neg c, if_neg c]
    have h3 := (hD k hk).2.2.2 (by omega)
    have h4 := (hD k hk).2.1
    exact msr_st hD 59 60 _ _ (by have := (hD k hk).1; omega) (by omega) (by omega)
theorem cs_arm {r : Nat} {e : Int} (hC : Ca n dy g a) (hI : Inv a) (hr : (r : Int) < a 53 5) (hk : a 57 r = 2 ∨ a 57 r = 3) (he : i3 e) (h : P (some (I_ (armI a r e))) n (W0 dy) g) : Runs miX6_arm d [.ref (g 3 r).toNat, I_ e] n (W0 dy) g P := by
  have ob := (hC.2.2.2.1 _ hr).ob hk
  obtain ⟨-, ⟨w1, w2, w3, w4⟩, -, -⟩ := (hC.2.2.2.1 _ hr).2.2.2.2.1 hk
  obtain ⟨h1, h2, h3, h4, h5, h6⟩ := rod_b hI hr hk
  have w1 : g (g 3 r).toNat 10 = a 59 r := w1
  have w3 : g (g 3 r).toNat 12 = a 64 r := w3
  have w4 : g (g 3 r).toNat 13 = a 65 r := w4
  refine wX6_arm hC.1 ⟨ob, fun q => by omega, fun q => ?_⟩
  rw [w1, w3, w4]
  refine ⟨⟨by omega, by omega⟩, by omega, fun y ey => ⟨he, fun c => ?_, fun c => ?_⟩⟩
  · unfold armI at h; rw [if_neg c, ← ey] at h; exact h
  · unfold armI at h; rw [if_pos c, ← ey] at h; exact h
theorem cs_whole {r : Nat} (hC : Ca n dy g a) (hI : Inv a) (hr : (r : Int) < a 53 5) (hk : a 57 r = 2 ∨ a 57 r = 3) (h : P (some (I_ (whI a r))) n (W0 dy) g) : Runs miX6_hasWholeArms d [.ref (g 3 r).toNat] n (W0 dy) g P := by
  have ob := (hC.2.2.2.1 _ hr).ob hk
  obtain ⟨-, ⟨w1, w2, w3, w4⟩, -, -⟩ := (hC.2.2.2.1 _ hr).2.2.2.2.1 hk
  obtain ⟨h1, h2, h3, h4, h5, h6⟩ := rod_b hI hr hk
  have w1 : g (g 3 r).toNat 10 = a 59 r := w1
  have w3 : g (g 3 r).toNat 12 = a 64 r := w3
  have w4 : g (g 3 r).toNat 13 = a 65 r := w4
  refine wX6_hasWholeArms hC.1 ⟨ob, fun q => by omega, fun q => ?_⟩
  rw [w1, w3, w4]
  refine ⟨⟨by omega, by omega⟩, by omega, ⟨by omega, by omega⟩, fun c => ?_, fun c => ?_⟩
  · unfold whI at h; rw [if_neg c] at h; exact h
  · unfold whI at h; rw [if_pos c] at h; exact h
theorem span_ob {c : Nat} (hn : 100 ≤ n) (hc : c = 9 ∨ c = 10) : Ob n (W0 dy) c 6 := by
  rcases hc with rfl | rfl
  · exact ⟨by omega, rfl, fun q => by cases q <;> rfl⟩
  · exact ⟨by omega, rfl, fun q => by cases q <;> rfl⟩
theorem cl_ne {c i q : Nat} (hc : c = 9 ∨ c = 10) (h : cl i q) : i ≠ c := by unfold cl at h; omega
theorem cs_measure {c k : Nat} {s : Int} (hC : Ca n dy g a) (hI : Inv a) (hc : c = 9 ∨ c = 10) (hk : (k : Int) < a 53 5) (hs : -1 ≤ s ∧ s < a 53 5) (h : ∀ g', (∀ i q, i ≠ c → g' i q = g i q) → (g' c 2 = (msr a s 60 k (1, 0, 0)).1 ∧ g' c 0 = (msr a s 60 k (1, 0, 0)).2.1 ∧ g' c 1 = (msr a s 60 k (1, 0, 0)).2.2) → P none n (W0 dy) g') : Runs miX7_measure (d + 1) [.ref c, .ref (g 3 k).toNat, .ref (rfx (g 3) s).toNat] n (W0 dy) g P := by
  obtain ⟨dp, hD⟩ := hI.dp
  have hN := hI.1.2
  have hn := hC.1
  have obc : Ob n (W0 dy) c 6 := span_ob hn hc
  have h3c : 3 ≠ c := by omega
  have key : ∀ (f j : Nat) (G : Hp) (t : Int × Int × Int), dp j = f → (j : Int) < a 53 5 → (∀ i q, i ≠ c → G i q = g i q) → (G c 2 = t.1 ∧ G c 0 = t.2.1 ∧ G c 1 = t.2.2) → (0 ≤ t.2.1 ∧ t.2.1 + 1000 * f ≤ 60000) → msr a s 60 j t = msr a s 60 k (1, 0, 0) → V miX7_measure (d + 1) 26 [(0, .ref c), (1, .ref (g 3 k).toNat), (2, .ref (rfx (g 3) s).toNat), (3, I_ (a 61 j)), (4, .ref ((g (g 3 j).toNat 3).toNat))] [] n (W0 dy) G 0 0 P := by
    intro f
    induction f with
    | zero =>
      intro j G t hf hj hG ht hb hm
      obtain ⟨q1, q2, q3, q4⟩ := hD j hj
      obtain ⟨u1, u2⟩ := above_b hC hI hj
      have z : a 60 j < 0 := by
        by_cases z : a 60 j < 0
        · exact z
        · have := q4 (by omega); omega
      rw [msr_eq hD hN hj, if_pos (Or.inl z)] at hm
      rw [u1 z]
      exact bX7_measure_26 hn ⟨fun _ => h G hG (by rw [← hm]; exact ht), fun q => absurd q (Nat.lt_irrefl 0)⟩
    | succ f ih =>
      intro j G t hf hj hG ht hb hm
      obtain ⟨q1, q2, q3, q4⟩ := hD j hj
      obtain ⟨u1, u2⟩ := above_b hC hI hj
      have z : 0 ≤ a 60 j := by
        by_cases z : a 60 j < 0
        · have := q3 z; omega
        · omega
      obtain ⟨v1, v2, v3, v4, v5⟩ := u2 z
      have hfj := q4 z
      rw [msr_eq hD hN hj] at hm
      rw [v2]
      have hCG : Ca n dy G a := hC.keep (fun i q hi => hG i q (cl_ne hc hi))
      have e3 : G 3 (a 60 j).toNat = g 3 (a 60 j).toNat := hG 3 _ h3c
      have ob4 : Ob n (W0 dy) (g 3 (a 60 j).toNat).toNat 5 := (hC.2.2.2.1 _ v1).ob v5
      have at1 : i3 (a 61 j) := by
        rcases ((hI.2.2.1 j hj).1.2.2.1 z).2.2 with y | y <;> omega
      have ab := armI_b hI v1 v5 (a 61 j)
      have wb := whI_b (a := a) (a 60 j).toNat
      have stop : (g 3 (a 60 j).toNat).toNat = (rfx (g 3) s).toNat ↔ a 60 j = s := by
        unfold rfx
        by_cases y : s < 0
        · rw [if_pos y]
          exact ⟨fun q => by omega, fun q => by omega⟩
        · rw [if_neg y]
          have hs' : ((s.toNat : Nat) : Int) < a 53 5 := by omega
          rw [hC.ne v1 hs']
          omega
      refine bX7_measure_26 hn ⟨fun q => by omega, fun _ => ⟨fun q => ?_, fun q => ⟨ob4, ?_⟩⟩⟩
      · rw [if_pos (Or.inr (stop.mp q))] at hm
        exact h G hG (by rw [← hm]; exact ht)
      · rw [if_neg (fun y => y.elim (by omega) (fun y => q (stop.mpr y)))] at hm
        rw [← e3]
        refine cs_arm hCG hI v1 v5 at1 ?_
        have kn := hCG.known v1
        have e4 : G (G 3 (a 60 j).toNat).toNat 4 = a 61 (a 60 j).toNat := kn.1.2.1
        have e5 : G (G 3 (a 60 j).toNat).toNat 3 = g (g 3 (a 60 j).toNat).toNat 3 := by rw [e3]; exact hG _ _ (by omega)
        have hne : (G 3 (a 60 j).toNat).toNat ≠ c := by rw [e3]; omega
        rw [← e3] at ob4
        generalize armI a (a 60 j).toNat (a 61 j) = y at *
        have nx : ∀ (w' : Int) (G' : Hp), w' = (if t.1 = 0 then 0 else whI a (a 60 j).toNat) → (∀ i q, i ≠ c → G' i q = g i q) → (G' c 2 = w' ∧ G' c 0 = t.2.1 + y ∧ G' c 1 = max t.2.2 y) → V miX7_measure (d + 1) 26 [(0, .ref c), (1, .ref (g 3 k).toNat), (2, .ref (rfx (g 3) s).toNat), (3, I_ (G (G 3 (a 60 j).toNat).toNat 4)), (4, .ref ((G (G 3 (a 60 j).toNat).toNat 3).toNat))] [] n (W0 dy) G' 0 0 P := fun w' G' ew hG' ht' => by
          rw [e4, e5]
          exact ih _ G' (w', t.2.1 + y, max t.2.2 y) (by omega) v1 hG' ht' (by show 0 ≤ t.2.1 + y ∧ t.2.1 + y + 1000 * f ≤ 60000; omega) (by rw [ew]; exact hm)
        have gg : ∀ w' : Int, (∀ i q, i ≠ c → up2 (up2 (up2 G c 0 (G c 0 + y)) c 1 (max (G c 1) y)) c 2 w' i q = g i q) ∧ (up2 (up2 (up2 G c 0 (G c 0 + y)) c 1 (max (G c 1) y)) c 2 w' c 2 = w' ∧ up2 (up2 (up2 G c 0 (G c 0 + y)) c 1 (max (G c 1) y)) c 2 w' c 0 = t.2.1 + y ∧ up2 (up2 (up2 G c 0 (G c 0 + y)) c 1 (max (G c 1) y)) c 2 w' c 1 = max t.2.2 y) := fun w' => by
          refine ⟨fun i q hi => by rw [up2_i hi, up2_i hi, up2_i hi, hG i q hi], up2_s, ?_, ?_⟩
          · rw [up2_k, if_neg (by omega), up2_k, if_neg (by omega), up2_s, ht.2.1]
          · rw [up2_k, if_neg (by omega), up2_s, ht.2.2]
        refine bX7_measure_43 hn ⟨obc, ⟨by rw [ht.2.1]; omega, by rw [ht.2.1]; omega⟩, ⟨by omega, by omega⟩, fun q9 => ⟨ob4, ?_⟩, fun q9 => ⟨ob4, ?_⟩⟩
        · exact nx 0 _ (by rw [if_pos (by rw [← ht.1]; exact q9)]) (gg 0).1 (gg 0).2
        · have hCG2 : Ca n dy (up2 (up2 G c 0 (G c 0 + y)) c 1 (max (G c 1) y)) a := hCG.keep (fun i q hi => by rw [up2_i (cl_ne hc hi), up2_i (cl_ne hc hi)])
          have e33 : up2 (up2 G c 0 (G c 0 + y)) c 1 (max (G c 1) y) 3 (a 60 j).toNat = G 3 (a 60 j).toNat := by rw [up2_i h3c, up2_i h3c]
          rw [← e33]
          refine cs_whole hCG2 hI v1 v5 ?_
          rw [e33]
          have e44 : ∀ q, up2 (up2 G c 0 (G c 0 + y)) c 1 (max (G c 1) y) (G 3 (a 60 j).toNat).toNat q = G (G 3 (a 60 j).toNat).toNat q := fun q => by rw [up2_i hne, up2_i hne]
          have ww : whI a (a 60 j).toNat = (if t.1 = 0 then 0 else whI a (a 60 j).toNat) := by rw [if_neg (by rw [← ht.1]; exact q9)]
          refine bX7_measure_82 hn ⟨by omega, fun q8 => ⟨obc, ob4, ?_⟩, fun q8 => ⟨obc, ob4, ?_⟩⟩
          · rw [e44, e44]
            exact nx 0 _ (by rw [← ww, q8]) (gg 0).1 (gg 0).2
          · rw [e44, e44]
            exact nx 1 _ (by rw [← ww]; omega) (gg 1).1 (gg 1).2
  refine wX7_measure hn ⟨obc, (hC.2.2.2.1 k hk).pt (hI.2.2.1 k hk).2, ?_⟩
  rw [(hC.known hk).1.2.1]
  have hdp := (hD k hk).2.1
  refine key _ k _ (1, 0, 0) rfl hk (fun i q hi => by rw [up2_i hi, up2_i hi, up2_i hi]) ⟨up2_s, ?_, ?_⟩ ⟨Int.le_refl 0, ?_⟩ rfl
  · rw [up2_k, if_neg (by omega), up2_k, if_neg (by omega), up2_s]
  · rw [up2_k, if_neg (by omega), up2_s]
  · show 0 + 1000 * ((dp k : Nat) : Int) ≤ 60000
    omega
end Arms
