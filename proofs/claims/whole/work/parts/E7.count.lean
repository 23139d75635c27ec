/-! THE CLASS'S COUNT OF WAYS -/
section Count
variable {d n : Nat} {dy : Nat → Shp} {g a : Hp} {P : Pst}
theorem toS_ne (hI : Inv a) : ∀ (f : Nat) (c x : Int), nrS a c ≤ f → c < a 53 5 → ((toS a f c x).length : Int) = neS a c
  | 0, c, x, hf, hc => by
    by_cases q : c < 0
    · show ((1 : Nat) : Int) = _
      exact (if_pos q).symm
    · have h := nrS_eq hI (by omega : 0 ≤ c) hc
      have h1 := nrS_nn hI (a 66 c.toNat)
      have h2 := nrS_nn hI (a 67 c.toNat)
      omega
  | f + 1, c, x, hf, hc => by
    unfold toS
    by_cases q : c < 0
    · rw [if_pos q]
      show ((1 : Nat) : Int) = _
      exact (if_pos q).symm
    · rw [if_neg q, List.length_append]
      obtain ⟨k, rfl⟩ := Int.eq_ofNat_of_zero_le (by omega : 0 ≤ c)
      have h := nrS_eq hI (by omega : 0 ≤ (k : Int)) hc
      have h1 := nrS_nn hI (a 66 k)
      have h2 := nrS_nn hI (a 67 k)
      have h' : nrS a (k : Int) = 1 + nrS a (a 66 k) + nrS a (a 67 k) := h
      obtain ⟨_, _, _, ⟨l1, l2, l3⟩, ⟨r1, r2, r3⟩⟩ := (hI.2.2.1 k hc).1
      have e1 := toS_ne hI f (a 66 k) (x * arR a k / a 59 k) (by omega) l2
      have e2 := toS_ne hI f (a 67 k) (x - x * arR a k / a 59 k) (by omega) r2
      rw [neS_eq hI hc]
      show (((toS a f (a 66 k) (x * arR a k / a 59 k)).length + (toS a f (a 67 k) (x - x * arR a k / a 59 k)).length : Nat) : Int) = _
      omega
theorem sumZ_take : ∀ (l : List Int) (p : Nat), p ≤ l.length → sumZ (l.take p) = sumN (fun e => (l[e]?).getD 0) p
  | l, 0, _ => by rw [List.take_zero]; rfl
  | l, p + 1, h => by
    have h' : p < l.length := by omega
    rw [← List.take_append_getElem h', sumZ_app, sumZ_take l p (by omega)]
    show _ = sumN (fun e => (l[e]?).getD 0) p + (l[p]?).getD 0
    rw [List.getElem?_eq_getElem h']
    show _ + (l[p] + 0) = _ + l[p]
    omega
theorem cs_takeNumbers {t N : Nat} (hC : Ca n dy g a) (hI : Inv a) (ht : t < 6) (eN : a 55 t = (N : Int)) (hN : N ≤ 10) (hvl : vlO a t N) (h : ∀ G : Hp, (∀ i q, i ≠ 19 → ¬ (i = 18 ∧ q = 1) → G i q = g i q) → G 18 1 = (N : Int) → (∀ i, i < N → G 19 i = vlV a t i) → P none n (W0 dy) G) : Runs miX3_takeNumbers (d + 2) [.ref 18, .ref (41 + 2 * t)] n (W0 dy) g P := by
  have hn := hC.1
  have tr := tr_ok (dy := dy) hn ht
  have e1 : g (41 + 2 * t) 1 = (N : Int) := by
    rcases hC.tk hI ht with ⟨k1, _⟩ | ⟨_, _, _, k4, _⟩
    · omega
    · rw [k4]; exact eN
  have key : ∀ (r i : Nat) (G : Hp), i + r = N → (∀ i q, i ≠ 19 → ¬ (i = 18 ∧ q = 1) → G i q = g i q) → G 18 1 = (N : Int) → (∀ j, j < i → G 19 j = vlV a t j) → V miX3_takeNumbers (d + 1 + 1) 15 [(0, .ref 18), (1, .ref (41 + 2 * t)), (2, I_ (i : Int))] [] n (W0 dy) G 0 0 P := by
    intro r
    induction r with
    | zero =>
      intro i G hi hf h1 hd
      exact bX3_takeNumbers_15 hn ⟨⟨by omega, by omega⟩, fun _ => h G hf h1 fun j hj => hd j (by omega), fun q => by omega⟩
    | succ r ih =>
      intro i G hi hf h1 hd
      have hCG : Ca n dy G a := hC.keep fun i q hc => hf i q (by unfold cl at hc; omega) (by unfold cl at hc; omega)
      have hvi := hvl i (by omega)
      refine bX3_takeNumbers_15 hn ⟨⟨by omega, by omega⟩, fun q => by omega, fun _ => ⟨tr, cs_at hCG hI ht (by omega) ?_⟩⟩
      refine bX3_takeNumbers_33 hn ⟨⟨by omega, by omega⟩, ⟨by omega, by omega⟩, ?_⟩
      rw [show (i : Int) + 1 = ((i + 1 : Nat) : Int) by omega, show ((i : Nat) : Int).toNat = i from rfl]
      refine ih (i + 1) _ (by omega) (fun x q h1 h2 => by rw [up2_i h1]; exact hf x q h1 h2) (by rw [up2_i (by decide)]; exact h1) fun j hj => ?_
      rw [up2_k]
      by_cases c : j = i
      · rw [if_pos c, c]; rfl
      · rw [if_neg c]; exact hd j (by omega)
  refine wX3_takeNumbers hn ⟨tr, ?_⟩
  rw [e1, show min (N : Int) 10 = (N : Int) by omega]
  exact key N 0 _ (by omega) (fun i q h1 h2 => if_neg h2) (if_pos ⟨rfl, rfl⟩) fun j hj => by omega
theorem cs_sumOfNumbers {t N : Nat} (hn : 100 ≤ n) (hN : N ≤ 10) (e1 : g 18 1 = (N : Int)) (e19 : ∀ i, i < N → g 19 i = vlV a t i) (h : P (some (I_ (vlA a t N))) n (W0 dy) g) : Runs miX3_sumOfNumbers d [.ref 18] n (W0 dy) g P := by
  have key : ∀ (r i : Nat), i + r = N → V miX3_sumOfNumbers d 4 [(0, .ref 18), (1, I_ (sumN (fun i => a 56 (16 * t + i)) i)), (2, I_ (i : Int))] [] n (W0 dy) g 0 0 P := by
    intro r
    induction r with
    | zero =>
      intro i hi
      have : i = N := by omega
      subst this
      exact bX3_sumOfNumbers_4 hn ⟨⟨by omega, by omega⟩, fun _ => h, fun q => by omega⟩
    | succ r ih =>
      intro i hi
      refine bX3_sumOfNumbers_4 hn ⟨⟨by omega, by omega⟩, fun q => by omega, fun _ => ⟨⟨by omega, by omega⟩, ?_⟩⟩
      have := ih (i + 1) (by omega)
      rw [show ((i + 1 : Nat) : Int) = (i : Int) + 1 by omega] at this
      rw [show g 19 ((i : Nat) : Int).toNat = a 56 (16 * t + i) from e19 i (by omega)]
      exact this
  exact wX3_sumOfNumbers hn (key N 0 (by omega))
/-- the class's answer, and the least row that it leaves -/
theorem cs_count {k t N m : Nat} (hC : Ca n dy g a) (hI : Inv a) (hk : (k : Int) < a 53 5) (ht : t < 6) (eN : a 55 t = (N : Int)) (hN1 : 2 ≤ N) (hN : N ≤ 10) (hvl : vlO a t N) (hok : ShO a k) (em : neS a (k : Int) = (m : Int))
    (h0 : ¬ whS a 8 (k : Int) (vlA a t N) → ∀ G : Hp, Ca n dy G a → Kr g G → P (some (I_ 0)) n (W0 dy) G)
    (h1 : whS a 8 (k : Int) (vlA a t N) → ∀ G : Hp, Ca n dy G a → Kr g G → G 18 1 = (N : Int) → (0 < Cc N (vlV a t) (wnt a t N k) m (2 ^ N - 1) → Fl N (vlV a t) (wnt a t N k) m (2 ^ N - 1) (G 35 (2 ^ N - 1))) → P (some (I_ (Cc N (vlV a t) (wnt a t N k) m (2 ^ N - 1)))) n (W0 dy) G) :
    Runs miX3_count (d + 17) [.ref 18, .ref (g 3 k).toNat, .ref (41 + 2 * t)] n (W0 dy) g P := by
  have hn := hC.1
  obtain ⟨hnn, hn1⟩ := nr_top hI hk
  have hm8 := hok.2
  have hp2 := p2_le hN
  obtain ⟨a0, a1⟩ := vlA_b hvl hN (by omega)
  refine wX3_count hn (cs_takeNumbers (d := d + 14) hC hI ht eN hN hvl fun G1 f1 g1 g19 => ?_)
  refine bX3_count_5 hn ?_
  refine cs_sumOfNumbers (a := a) (t := t) (N := N) hn hN (by rw [up2_i (by decide), up2_k, if_neg (by decide), up2_k, if_neg (by decide)]; exact g1) (fun i hi => by rw [up2_i (by decide), up2_i (by decide), up2_i (by decide)]; exact g19 i hi) ?_
  have fr : ∀ i q, i ≠ 19 → i ≠ 20 → ¬ (i = 18 ∧ (q = 1 ∨ q = 3 ∨ q = 4)) → up2 (up2 (up2 G1 18 3 0) 18 4 1) 20 0 0 i q = g i q := fun i q i1 i2 i3 => by
    rw [up2_i i2, show up2 (up2 G1 18 3 0) 18 4 1 i q = up2 G1 18 3 0 i q from if_neg (fun z => i3 ⟨z.1, Or.inr (Or.inr z.2)⟩), show up2 G1 18 3 0 i q = G1 i q from if_neg (fun z => i3 ⟨z.1, Or.inr (Or.inl z.2)⟩)]
    exact f1 i q i1 (fun z => i3 ⟨z.1, Or.inl z.2⟩)
  have w1 : up2 (up2 (up2 G1 18 3 0) 18 4 1) 20 0 0 18 1 = (N : Int) := by rw [up2_i (by decide), up2_k, if_neg (by decide), up2_k, if_neg (by decide)]; exact g1
  have w3 : up2 (up2 (up2 G1 18 3 0) 18 4 1) 20 0 0 18 3 = ((0 : Nat) : Int) := by rw [up2_i (by decide), up2_k, if_neg (by decide), up2_k, if_pos rfl]; rfl
  have w4 : up2 (up2 (up2 G1 18 3 0) 18 4 1) 20 0 0 18 4 = 1 := by rw [up2_i (by decide), up2_k, if_pos rfl]
  have w20 : up2 (up2 (up2 G1 18 3 0) 18 4 1) 20 0 0 20 0 = 0 := by rw [up2_k, if_pos rfl]
  have w19 : ∀ i, i < N → up2 (up2 (up2 G1 18 3 0) 18 4 1) 20 0 0 19 i = vlV a t i := fun i hi => by rw [up2_i (by decide), up2_i (by decide), up2_i (by decide)]; exact g19 i hi
  generalize up2 (up2 (up2 G1 18 3 0) 18 4 1) 20 0 0 = G2 at *
  have hC2 : Ca n dy G2 a := hC.keep fun i q hc => fr i q (by unfold cl at hc; omega) (by unfold cl at hc; omega) (by unfold cl at hc; omega)
  have hK2 : Kr g G2 := fun i q hi => fr i q (by omega) (by omega) (by omega)
  have e3 : g 3 k = G2 3 k := (fr 3 k (by decide) (by decide) (by omega)).symm
  refine bX3_count_28 hn ?_
  rw [e3]
  refine cs_share (dy := dy) (n := n) hI 8 k d 0 (vlA a t N) G2 _ (by omega) hk hok.1 ⟨by omega, by omega⟩ (by omega) hC2 ⟨0, by omega, w3, by rw [w20]; decide, by rw [w20]; decide⟩ fun G3 hS => ?_
  have hC3 := hS.ca hC2
  have hK3 : Kr g G3 := fun i q hi => (hS.1 i q (by omega) (by omega)).trans (hK2 i q hi)
  obtain ⟨s1, _, s3, s4⟩ := hS
  rcases Classical.em (whS a 8 (k : Int) (vlA a t N)) with hw | hw
  · obtain ⟨t1, t2⟩ := s3 hw
    have hlen : (toS a 8 (k : Int) (vlA a t N)).length = m := by
      have := toS_ne hI 8 (k : Int) (vlA a t N) (by omega) hk
      omega
    obtain ⟨u1, u2, u3⟩ := t2 0 w3 (by omega)
    rw [hlen, Nat.zero_add] at u1
    rw [hlen] at u3
    have hwp : ∀ e, e < m → 1 ≤ wnt a t N k e := fun e he => by
      unfold wnt
      have hl : e < (toS a 8 (k : Int) (vlA a t N)).length := by omega
      rw [List.getElem?_eq_getElem hl]
      exact (toS_b hI 8 (k : Int) (vlA a t N) hk (fun _ => hok.1) hw (by omega) _ (List.getElem_mem hl)).1
    have hv : ∀ i, i < N → 1 ≤ vlV a t i ∧ vlV a t i ≤ 1000000 := hvl
    have hPK : PK N m (vlV a t) (wnt a t N k) G3 := by
      refine ⟨(s1 18 1 (by decide) (by decide)).trans w1, u1, fun i hi => (s1 19 i (by decide) (by omega)).trans (w19 i hi), fun p hp => ?_, hC3.2.2.2.2.2.2.2⟩
      have := u3 p hp
      rw [Nat.zero_add, w20] at this
      rw [this, sumZ_take _ p (by omega)]
      show 0 + sumN (wnt a t N k) p = _
      omega
    refine bX3_count_32 hn ⟨fun _ => ?_, fun q => by rw [t1, w4] at q; exact absurd q (by decide)⟩
    refine cs_listSets (d := d + 15) hn hN (by omega) hv hPK fun G4 l1 l2 l3 l4 l5 => bX3_count_45 hn ?_
    -- place by place
    have loop : ∀ (r p : Nat) (G : Hp), p + r = m → (∀ i q, i ≠ 34 → i ≠ 35 → G i q = G4 i q) → (∀ T, T ∈ Ls N (vlV a t) (wnt a t N k) p (2 ^ N) → G 34 T = Cc N (vlV a t) (wnt a t N k) p T ∧ (0 < Cc N (vlV a t) (wnt a t N k) p T → Fl N (vlV a t) (wnt a t N k) p T (G 35 T))) → (∀ p', p < p' → p' ≤ m → ∀ T, T ∈ Ls N (vlV a t) (wnt a t N k) p' (2 ^ N) → G 34 T = 0) → V miX3_count (d + 16 + 1) 47 [(0, .ref 18), (1, .ref (G2 3 k).toNat), (2, .ref (41 + 2 * t)), (3, I_ (p : Int))] [] n (W0 dy) G 0 0 P := by
      intro r
      induction r with
      | zero =>
        intro p G hp hf hd hu
        have ep : p = m := by omega
        subst ep
        have hl : lwL G3 G := fun i q hi => (hf i q (by omega) (by omega)).trans (l1 i q hi)
        have hPG := hPK.mv hl
        have hCG : Ca n dy G a := hC3.keep fun i q hc => hl i q (by unfold cl at hc; omega)
        have hKG : Kr g G := fun i q hi => (hl i q (by omega)).trans (hK3 i q hi)
        refine bX3_count_47 hn ⟨⟨by omega, by omega⟩, fun _ => wX3_fullSet hn ?_, fun q => by rw [hPG.2.1] at q; omega⟩
        rw [hPG.1, shl_N hN, show ((2 ^ N : Nat) : Int) - 1 = ((2 ^ N - 1 : Nat) : Int) by have := p2_pos N; omega]
        have hpp := p2_pos N
        refine bX3_count_74 hn ⟨⟨by omega, by omega⟩, ?_⟩
        have hF : 2 ^ N - 1 ∈ Ls N (vlV a t) (wnt a t N k) p (2 ^ N) := by
          refine (Ls_in _).mpr ⟨full_lt N, fun i j _ hj _ _ => by rw [tb_full]; exact decide_eq_true (by omega), ?_⟩
          have e1 : sm N (vlV a t) (2 ^ N - 1) = vlA a t N := sumN_cg N fun i hi => by
            rw [tb_full]; exact if_pos (decide_eq_true hi)
          have e2 := toS_sum a 8 (k : Int) (vlA a t N)
          have e4 := sumZ_take (toS a 8 (k : Int) (vlA a t N)) p (by omega)
          rw [List.take_of_length_le (by omega), e2] at e4
          rw [e1]; exact e4
        obtain ⟨z1, z2⟩ := hd _ hF
        show P (some (I_ (G 34 (2 ^ N - 1)))) n (W0 dy) G
        rw [z1]
        exact h1 hw G hCG hKG hPG.1 z2
      | succ r ih =>
        intro p G hp hf hd hu
        have hl : lwL G3 G := fun i q hi => (hf i q (by omega) (by omega)).trans (l1 i q hi)
        have hPG := hPK.mv hl
        refine bX3_count_47 hn ⟨⟨by omega, by omega⟩, fun q => by rw [hPG.2.1] at q; omega, fun _ => ?_⟩
        refine cs_goOnFrom (d := d + 15) (p := p) hn hN (by omega) (by omega) (fun i hi => (hv i hi).1) hwp hPG (fun p' hp' => ?_) (fun T hT => (hf 22 T (by decide) (by decide)).trans (l3 T hT)) hd (fun U hU => hu (p + 1) (by omega) (by omega) U hU) fun G' k1 k2 k3 => bX3_count_60 hn ?_
        · obtain ⟨b1, b2⟩ := l4 p' hp'
          exact ⟨(hf 33 p' (by decide) (by decide)).trans b1, fun i T hT => (hf _ _ (by omega) (by omega)).trans (b2 i T hT)⟩
        · rw [show (p : Int) + 1 = ((p + 1 : Nat) : Int) by omega]
          refine ih (p + 1) G' (by omega) (fun i q i1 i2 => (k1 i q i1 i2).trans (hf i q i1 i2)) k3 fun p' h1 h2 T hT => ?_
          have hnin : ¬ T ∈ Ls N (vlV a t) (wnt a t N k) (p + 1) (2 ^ N) := fun z => by
            have := bf_inj (m := m) hwp h2 (by omega) hT z
            omega
          rw [(k2 T hnin).1]
          exact hu p' (by omega) h2 T hT
    refine loop m 0 G4 (by omega) (fun _ _ _ _ => rfl) (fun T hT => ?_) fun p' h1 h2 T hT => ?_
    · obtain ⟨q1, q2, q3⟩ := (Ls_in _).mp hT
      have hT0 : T = 0 := sm_zero q1 (fun i hi => (hv i hi).1) q3
      subst hT0
      have ec : Cc N (vlV a t) (wnt a t N k) 0 0 = 1 := iv_t rfl
      refine ⟨?_, fun _ => ?_⟩
      · rw [l2 0 q1 q2, if_pos rfl, ec]
      · rw [l5]
        have hrow : ∀ f, roI N 0 f = 0 := fun f => by
          show sumN _ N = 0
          rw [sumN_cg N (h := fun _ => 0) (fun i _ => by show (if (0 : Nat).testBit i = true then (f i : Int) * 8 ^ (N - 1 - i) else 0) = 0; rw [Nat.zero_testBit, if_neg (by decide)]), sumN_zero]
        refine ⟨?_, fun f _ => by rw [hrow]; exact Int.le_refl 0⟩
        obtain ⟨f, hf⟩ := (Cc_iff 0 0 q1).mp (by rw [ec]; decide)
        exact ⟨f, hf, (hrow f).symm⟩
    · obtain ⟨q1, q2, q3⟩ := (Ls_in _).mp hT
      rw [l2 T q1 q2]
      refine if_neg fun z => ?_
      rw [z, sm_0] at q3
      have := bf_lt (m := m) hwp h1 h2
      have e0 : sumN (wnt a t N k) 0 = 0 := rfl
      omega
  · refine bX3_count_32 hn ⟨fun q => absurd (s4 hw) q, fun _ => h0 hw G3 hC3 hK3⟩
end Count
