/-! SHARES: the class -/
def sumZ : List Int → Int
  | [] => 0
  | x :: l => x + sumZ l
theorem sumZ_app : ∀ l m : List Int, sumZ (l ++ m) = sumZ l + sumZ m
  | [], m => by show sumZ m = 0 + sumZ m; omega
  | x :: l, m => by
    show x + sumZ (l ++ m) = x + sumZ l + sumZ m
    rw [sumZ_app l m]; omega
theorem toS_sum (a : Hp) : ∀ (f : Nat) (c x : Int), sumZ (toS a f c x) = x
  | 0, _, x => by show x + 0 = x; omega
  | f + 1, c, x => by
    unfold toS
    split
    · show x + 0 = x; omega
    · rw [sumZ_app, toS_sum a f, toS_sum a f]; omega
def PBf (G : Hp) : Prop := ∃ p : Nat, p ≤ 8 ∧ G 18 3 = (p : Int) ∧ 0 ≤ G 20 p ∧ G 20 p ≤ 10000000 * (p : Int)
/-- what sharing x out on side c leaves -/
def ShR (a g G : Hp) (f : Nat) (c x : Int) : Prop :=
  (∀ i q, i ≠ 20 → ¬ (i = 18 ∧ (q = 3 ∨ q = 4)) → G i q = g i q) ∧ PBf G ∧
  (whS a f c x → G 18 4 = g 18 4 ∧ ∀ p : Nat, g 18 3 = (p : Int) → p + (toS a f c x).length ≤ 8 → G 18 3 = ((p + (toS a f c x).length : Nat) : Int) ∧ (∀ i, i ≤ p → G 20 i = g 20 i) ∧ ∀ i, i ≤ (toS a f c x).length → G 20 (p + i) = g 20 p + sumZ ((toS a f c x).take i)) ∧
  (¬ whS a f c x → G 18 4 = 0)
section ShareC
variable {n : Nat} {dy : Nat → Shp} {a : Hp}
theorem ShR.ca {g G : Hp} {f : Nat} {c x : Int} (h : ShR a g G f c x) (hC : Ca n dy g a) : Ca n dy G a := hC.keep fun i q hi => h.1 i q (by unfold cl at hi; omega) (by unfold cl at hi; omega)
theorem cs_shareSide_go {d f D : Nat} {c x : Int} {g : Hp} {P : Pst} (hC : Ca n dy g a) (hI : Inv a) (hPB : PBf g) (hx : 1 ≤ x ∧ x ≤ 10000000) (hc : c < a 53 5) (hok : 0 ≤ c → a 57 c.toNat = 2 ∨ a 57 c.toNat = 3)
    (ih : 0 ≤ c → ∀ P : Pst, (∀ G : Hp, ShR a g G f c x → P none n (W0 dy) G) → Runs miX3_share d [.ref 18, .ref (g 3 c.toNat).toNat, I_ x, I_ ((D : Int) + 1)] n (W0 dy) g P)
    (h : ∀ G : Hp, ShR a g G f c x → P none n (W0 dy) G) : Runs miX3_shareSide (d + 1) [.ref 18, .ref (rfx (g 3) c).toNat, I_ x, I_ (D : Int)] n (W0 dy) g P := by
  have hn := hC.1
  by_cases c0 : c < 0
  · obtain ⟨p, hp, ep, b1, b2⟩ := hPB
    have hw : whS a f c x := by cases f with
      | zero => exact c0
      | succ f => exact Or.inl c0
    have ht : toS a f c x = [x] := by cases f with
      | zero => rfl
      | succ f => unfold toS; rw [if_pos c0]
    rw [show rfx (g 3) c = 0 from if_pos c0]
    refine wX3_shareSide hn (cs_asRod0 hn ?_)
    refine bX3_shareSide_4 hn ⟨fun _ => ⟨fun q8 => ?_, fun q8 => ?_⟩, fun q => absurd q (Nat.lt_irrefl 0)⟩
    · refine h g ⟨fun _ _ _ _ => rfl, ⟨p, hp, ep, b1, b2⟩, fun _ => ⟨rfl, fun p' e hle => ?_⟩, fun z => absurd hw z⟩
      rw [ht] at hle
      have : p' + 1 ≤ 8 := hle
      omega
    · rw [ep] at q8
      have e1 : ((p : Int) + 1).toNat = p + 1 := by omega
      rw [ep, e1]
      show (0 ≤ (p : Int) ∧ (p : Int) < 9) ∧ _ ∧ i3 (g 20 p + x) ∧ P none n (W0 dy) (up2 (up2 g 20 (p + 1) (g 20 p + x)) 18 3 ((p : Int) + 1))
      refine ⟨⟨by omega, by omega⟩, ⟨by omega, by omega⟩, ⟨by omega, by omega⟩, h _ ⟨fun i q h1 h2 => ?_, ⟨p + 1, by omega, ?_, ?_, ?_⟩, fun _ => ⟨?_, fun p' e hle => ?_⟩, fun z => absurd hw z⟩⟩
      · rw [show up2 (up2 g 20 (p + 1) (g 20 p + x)) 18 3 ((p : Int) + 1) i q = up2 g 20 (p + 1) (g 20 p + x) i q from if_neg (fun z => h2 ⟨z.1, Or.inl z.2⟩), up2_i h1]
      · rw [up2_k, if_pos rfl]; omega
      · rw [up2_i (by decide), up2_k, if_pos rfl]; omega
      · rw [up2_i (by decide), up2_k, if_pos rfl]; omega
      · rw [up2_k, if_neg (by decide), up2_i (by decide)]
      · have e' : p' = p := by omega
        subst e'
        rw [ht]
        refine ⟨?_, fun i hi => ?_, fun i hi => ?_⟩
        · rw [up2_k, if_pos rfl]; show (p' : Int) + 1 = ((p' + 1 : Nat) : Int); omega
        · rw [up2_i (by decide), up2_k, if_neg (by omega)]
        · have hi' : i ≤ 1 := hi
          rcases (by omega : i = 0 ∨ i = 1) with z | z
          · subst z
            rw [up2_i (by decide), Nat.add_zero, up2_k, if_neg (by omega)]
            show g 20 p' = g 20 p' + 0
            omega
          · subst z
            rw [up2_i (by decide), up2_k, if_pos rfl]
            show g 20 p' + x = g 20 p' + (x + 0)
            omega
  · obtain ⟨k, rfl⟩ := Int.eq_ofNat_of_zero_le (by omega : 0 ≤ c)
    have b := hC.cell hc
    rw [show rfx (g 3) (k : Int) = g 3 k from if_neg c0]
    refine wX3_shareSide hn (cs_asRod hC hI hc ⟨fun _ => ?_, fun z => absurd (hok (by omega)) z⟩)
    refine bX3_shareSide_4 hn ⟨fun q => by omega, fun _ => ?_⟩
    exact ih (by omega) _ fun G hG => bX3_shareSide_21 hn (h G hG)
theorem ShR.two {g G1 G2 : Hp} {f k : Nat} {x : Int} (h1 : ShR a g G1 f (a 66 k) (x * arR a k / a 59 k)) (h2 : ShR a G1 G2 f (a 67 k) (x - x * arR a k / a 59 k)) (hd : a 59 k ∣ x * arR a k) : ShR a g G2 (f + 1) (k : Int) x := by
  obtain ⟨p1, p2, p3, p4⟩ := h1
  obtain ⟨q1, q2, q3, q4⟩ := h2
  have hts : toS a (f + 1) (k : Int) x = toS a f (a 66 k) (x * arR a k / a 59 k) ++ toS a f (a 67 k) (x - x * arR a k / a 59 k) := by
    show (if (k : Int) < 0 then [x] else _) = _
    rw [if_neg (by omega)]; rfl
  have hwh : whS a (f + 1) (k : Int) x ↔ (a 59 k ∣ x * arR a k ∧ whS a f (a 66 k) (x * arR a k / a 59 k) ∧ whS a f (a 67 k) (x - x * arR a k / a 59 k)) := by
    show ((k : Int) < 0 ∨ _) ↔ _
    exact ⟨fun q => q.resolve_left (by omega), Or.inr⟩
  generalize x * arR a k / a 59 k = y at *
  refine ⟨fun i q i1 i2 => (q1 i q i1 i2).trans (p1 i q i1 i2), q2, fun hw => ?_, fun hw => ?_⟩
  · obtain ⟨_, w1, w2⟩ := hwh.mp hw
    obtain ⟨r1, r2⟩ := p3 w1
    obtain ⟨s1, s2⟩ := q3 w2
    refine ⟨s1.trans r1, fun p e hle => ?_⟩
    rw [hts, List.length_append] at hle ⊢
    obtain ⟨t1, t2, t3⟩ := r2 p e (by omega)
    obtain ⟨u1, u2, u3⟩ := s2 _ t1 (by omega)
    refine ⟨by rw [u1]; omega, fun i hi => (u2 i (by omega)).trans (t2 i hi), fun i hi => ?_⟩
    by_cases c : i ≤ (toS a f (a 66 k) y).length
    · rw [u2 (p + i) (by omega), t3 i c, List.take_append_of_le_length c]
    · have e1 : p + i = p + (toS a f (a 66 k) y).length + (i - (toS a f (a 66 k) y).length) := by omega
      rw [e1, u3 _ (by omega), t3 _ (Nat.le_refl _), List.take_length]
      rw [show List.take i (toS a f (a 66 k) y ++ toS a f (a 67 k) (x - y)) = toS a f (a 66 k) y ++ List.take (i - (toS a f (a 66 k) y).length) (toS a f (a 67 k) (x - y)) by rw [List.take_append, List.take_of_length_le (by omega)], sumZ_app]
      omega
  · rcases Classical.em (whS a f (a 67 k) (x - y)) with w2 | w2
    · rcases Classical.em (whS a f (a 66 k) y) with w1 | w1
      · exact absurd (hwh.mpr ⟨hd, w1, w2⟩) hw
      · rw [(q3 w2).1]; exact p4 w1
    · exact q4 w2
theorem cs_share (hI : Inv a) : ∀ (f k d D : Nat) (x : Int) (g : Hp) (P : Pst), nrS a (k : Int) ≤ f → (k : Int) < a 53 5 → (∀ y : Nat, (y : Int) < a 53 5 → abv (a 60) k 60 y = true → OKp a y) → 1 ≤ x ∧ x ≤ 10000000 → (D : Int) + nrS a (k : Int) ≤ 8 → Ca n dy g a → PBf g → (∀ G : Hp, ShR a g G f (k : Int) x → P none n (W0 dy) G) → Runs miX3_share (d + 2 * f) [.ref 18, .ref (g 3 k).toNat, I_ x, I_ (D : Int)] n (W0 dy) g P := by
  obtain ⟨dp, hD⟩ := hI.dp
  have hN6 := hI.1
  intro f
  induction f with
  | zero =>
    intro k d D x g P hf hk
    have := (nr_top hI hk).2
    omega
  | succ f ih =>
    intro k d D x g P hf hk hok hx hdp hC hPB h
    have hn := hC.1
    have hK := hok k hk (abv_self hD hN6.2 hk)
    have hp := hC.2.2.2.1 k hk
    have b := hC.cell hk
    have hnr := nrS_eq hI (c := (k : Int)) (by omega) hk
    have hn0 := nrS_nn hI (a 66 k)
    have hn1 := nrS_nn hI (a 67 k)
    have hnr' : nrS a (k : Int) = 1 + nrS a (a 66 k) + nrS a (a 67 k) := hnr
    obtain ⟨hlen, har, harR⟩ := ar_b hI hk hK
    obtain ⟨_, _, _, ⟨l1, l2, l3⟩, ⟨r1, r2, r3⟩⟩ := (hI.2.2.1 k hk).1
    obtain ⟨_, ⟨e10, _, _, _⟩, e14, e15⟩ := hp.2.2.2.2.1 hK.1
    have e10' : g (g 3 k).toNat 10 = a 59 k := e10
    have e14' : g (g 3 k).toNat 14 = rfx (g 3) (a 66 k) := e14
    have e15' : g (g 3 k).toNat 15 = rfx (g 3) (a 67 k) := e15
    have kid : ∀ q : Int, (0 ≤ q → a 60 q.toNat = (k : Int)) → q < a 53 5 → 0 ≤ q → ∀ y : Nat, (y : Int) < a 53 5 → abv (a 60) q.toNat 60 y = true → OKp a y := fun q hq hqN q0 y hyN hab => hok y hyN (abv_up hD hN6.2 hk (c := q.toNat) (by omega) (hq q0) (dp y) y rfl hyN hab)
    have kr : ∀ q : Int, (0 ≤ q → a 60 q.toNat = (k : Int)) → q < a 53 5 → 0 ≤ q → a 57 q.toNat = 2 ∨ a 57 q.toNat = 3 := fun q hq hqN q0 => (kid q hq hqN q0 q.toNat (by omega) (abv_self hD hN6.2 (by omega))).1
    rw [show d + 2 * (f + 1) = d + 2 * f + 1 + 1 by omega]
    refine wX3_share hn ⟨⟨by omega, by omega⟩, hp.ob hK.1, cs_arm hC hI hk hK.1 (by decide) ?_⟩
    rw [arI, if_neg (by decide)]
    show V miX3_share (d + 2 * f + 1 + 1) 7 [(0, .ref 18), (1, .ref (g 3 k).toNat), (2, I_ x), (3, I_ (D : Int))] [I_ (arR a k), L_ x] n (W0 dy) g 0 0 P
    have hpb : 0 < x * arR a k ∧ x * arR a k ≤ 10000000 * 1000 := ⟨Int.mul_pos (by omega) (by omega), Int.mul_le_mul hx.2 (by omega) (by omega) (by omega)⟩
    have nohw : ¬ a 59 k ∣ x * arR a k → P none n (W0 dy) (up2 g 18 4 0) := fun z => by
      obtain ⟨p, hp8, ep, b1, b2⟩ := hPB
      refine h _ ⟨fun i q i1 i2 => ?_, ⟨p, hp8, ?_, ?_, ?_⟩, fun w => ?_, fun _ => ?_⟩
      · exact if_neg (fun t => i2 ⟨t.1, Or.inr t.2⟩)
      · rw [up2_k, if_neg (by decide)]; exact ep
      · rw [up2_i (by decide)]; exact b1
      · rw [up2_i (by decide)]; exact b2
      · exact absurd ((show (k : Int) < 0 ∨ _ from w).resolve_left (by omega)).1 z
      · rw [up2_k, if_pos rfl]
    refine bX3_share_7 hn ⟨⟨by omega, by omega⟩, ⟨by omega, by omega⟩, fun q => by omega, fun _ => ⟨hp.ob hK.1, ?_⟩⟩
    rw [e10']
    have htm : (x * arR a k).tmod (a 59 k) = (x * arR a k) % a 59 k := Int.tmod_eq_emod_of_nonneg (by omega)
    have hmb := Int.emod_nonneg (x * arR a k) (by omega : a 59 k ≠ 0)
    have hmb2 := Int.emod_lt_of_pos (x * arR a k) (by omega : 0 < a 59 k)
    rw [htm, Int.tdiv_eq_ediv_of_nonneg (by omega)]
    refine ⟨fun q => by omega, fun _ => ⟨⟨by omega, by omega⟩, by omega, ⟨by omega, by omega⟩, fun q => ⟨by omega, ?_⟩, fun q => nohw fun z => q (Int.emod_eq_zero_of_dvd z)⟩⟩
    have hd : a 59 k ∣ x * arR a k := Int.dvd_of_emod_eq_zero q
    rw [e14']
    have e : x * arR a k / a 59 k * a 59 k = x * arR a k := Int.ediv_mul_cancel hd
    have p2 : x * arR a k < x * a 59 k := Int.mul_lt_mul_of_pos_left (by omega) (by omega)
    have z1 : 0 < x * arR a k / a 59 k := Int.pos_of_mul_pos_left (b := a 59 k) (by omega) (by omega)
    have z2 : x * arR a k / a 59 k < x := Int.lt_of_mul_lt_mul_right (a := a 59 k) (by omega) (by omega)
    refine cs_shareSide_go (f := f) hC hI hPB ⟨by omega, by omega⟩ l2 (kr _ (fun q => (l3 q).1) l2) (fun c0 P' hP' => ?_) fun G1 hG1 => ?_
    · obtain ⟨cc, ec⟩ := Int.eq_ofNat_of_zero_le c0
      have hkid := kid _ (fun q => (l3 q).1) l2 c0
      rw [ec] at hP' hkid l2 hn0 hnr' ⊢
      exact ih cc d (D + 1) _ g P' (by omega) l2 hkid ⟨by omega, by omega⟩ (by omega) hC hPB hP'
    · have hC1 := hG1.ca hC
      refine bX3_share_65 hn ⟨hp.ob hK.1, ?_⟩
      have e15G : G1 (g 3 k).toNat 15 = rfx (G1 3) (a 67 k) := by
        rw [hG1.1 _ _ (by omega) (by omega), e15', show G1 3 = g 3 from funext fun q => hG1.1 3 q (by decide) (by omega)]
      rw [e15G]
      refine cs_shareSide_go (f := f) hC1 hI hG1.2.1 ⟨by omega, by omega⟩ r2 (kr _ (fun q => (r3 q).1) r2) (fun c0 P' hP' => ?_) fun G2 hG2 => bX3_share_78 hn (h G2 (hG1.two hG2 hd))
      obtain ⟨cc, ec⟩ := Int.eq_ofNat_of_zero_le c0
      have hkid := kid _ (fun q => (r3 q).1) r2 c0
      rw [ec] at hP' hkid r2 hn1 hnr' ⊢
      exact ih cc d (D + 1) _ G1 P' (by omega) r2 hkid ⟨by omega, by omega⟩ (by omega) hC1 hG1.2.1 hP'
end ShareC
