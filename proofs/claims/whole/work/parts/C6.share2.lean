/-! SHARES: a rod's two sides together -/
theorem sh_iff {all T L T0 L0 ar len x c0 : Int} (hL : 0 < L) (hc : 0 < c0) (e1 : T0 * c0 = T * ar) (e2 : L0 * c0 = L * len) (ex : x * L = all * T) (y : Int) : L0 * y = all * T0 ↔ len * y = x * ar := by
  constructor
  · intro h
    have h1 : (len * y) * L = (x * ar) * L := by
      have e : (len * y) * L = (L * len) * y := by grind
      rw [e, ← e2]
      have e' : L0 * c0 * y = (L0 * y) * c0 := by grind
      rw [e', h]
      have e'' : all * T0 * c0 = all * (T0 * c0) := by grind
      rw [e'', e1]
      have e3 : all * (T * ar) = (all * T) * ar := by grind
      rw [e3, ← ex]
      grind
    exact Int.eq_of_mul_eq_mul_right (by omega) h1
  · intro h
    have h1 : (L0 * y) * c0 = (all * T0) * c0 := by
      have e : (L0 * y) * c0 = (L0 * c0) * y := by grind
      rw [e, e2]
      have e' : L * len * y = L * (len * y) := by grind
      rw [e', h]
      have e'' : L * (x * ar) = (x * L) * ar := by grind
      rw [e'', ex]
      have e3 : all * T * ar = all * (T * ar) := by grind
      rw [e3, ← e1]
      grind
    exact Int.eq_of_mul_eq_mul_right (by omega) h1
theorem sh_sum {all T L T0 L0 T1 L1 ar al len c0 c1 y0 y1 : Int} (hlen : 0 < len) (hs : ar + al = len) (e1 : T0 * c0 = T * ar) (e2 : L0 * c0 = L * len) (e3 : T1 * c1 = T * al) (e4 : L1 * c1 = L * len) (h0 : all * T0 = L0 * y0) (h1 : all * T1 = L1 * y1) : all * T = L * (y0 + y1) := by
  refine Int.eq_of_mul_eq_mul_right (a := len) (by omega) ?_
  have q0 : all * (T * ar) = L * len * y0 := by
    rw [← e1, ← e2]
    have : all * (T0 * c0) = (all * T0) * c0 := by grind
    rw [this, h0]; grind
  have q1 : all * (T * al) = L * len * y1 := by
    rw [← e3, ← e4]
    have : all * (T1 * c1) = (all * T1) * c1 := by grind
    rw [this, h1]; grind
  have : all * T * len = all * (T * ar) + all * (T * al) := by rw [← hs]; grind
  rw [this, q0, q1]; grind
theorem sh_ex {T L T0 L0 ar len : Int} (hT : 0 < T) (hTL : T ≤ L) (har : 1 ≤ ar ∧ ar < len) (hb : L * len ≤ 1000000000000000000) (r : Rl T L ar len T0 L0) : ∃ c, 0 < c ∧ T0 * c = T * ar ∧ L0 * c = L * len ∧ Int.gcd T0 L0 = 1 ∧ 0 < T0 ∧ T0 ≤ L0 ∧ L0 ≤ L * len := by
  have h1 : 0 < T * ar := Int.mul_pos hT (by omega)
  have h2 : T * ar ≤ L * len := Int.mul_le_mul hTL (by omega) (by omega) (by omega)
  obtain ⟨c, hc, e1, e2, hg⟩ := Rl_ex r h1 (by omega) (by omega) (by omega)
  have p1 : 0 < T0 := by
    refine Int.pos_of_mul_pos_left (b := c) ?_ (by omega)
    rw [e1]; exact h1
  have p2 : T0 ≤ L0 := Int.le_of_mul_le_mul_right (by rw [e1, e2]; exact h2) hc
  have p3 : L0 * 1 ≤ L0 * c := Int.mul_le_mul_of_nonneg_left (by omega) (by omega)
  exact ⟨c, hc, e1, e2, hg, p1, p2, by omega⟩
theorem sh_fin {all T L T0 L0 T1 L1 ar al len c0 c1 : Int} (hlen : 2 ≤ len) (hsum : ar + al = len) (hc0 : 0 < c0) (hc1 : 0 < c1) (hL : 0 < L) (e1 : T0 * c0 = T * ar) (e2 : L0 * c0 = L * len) (e3 : T1 * c1 = T * al) (e4 : L1 * c1 = L * len) (hL0 : 0 < L0) (hL1 : 0 < L1) (hd : L ∣ all * T) (hor : L0 ∣ all * T0 ∨ L1 ∣ all * T1 ∨ len ∣ (all * T / L) * ar) : len ∣ (all * T / L) * ar ∧ L0 ∣ all * T0 ∧ L1 ∣ all * T1 ∧ all * T0 / L0 = (all * T / L) * ar / len ∧ all * T1 / L1 = all * T / L - (all * T / L) * ar / len := by
  have ex : all * T / L * L = all * T := Int.ediv_mul_cancel hd
  generalize all * T / L = x at *
  have i0 := sh_iff hL hc0 e1 e2 ex
  have i1 := sh_iff hL hc1 e3 e4 ex
  have hxs : x * al = x * len - x * ar := by rw [show al = len - ar by omega, Int.mul_sub]
  obtain ⟨y, hy⟩ : ∃ y, len * y = x * ar := by
    rcases hor with ⟨y, q⟩ | ⟨y, q⟩ | ⟨y, q⟩
    · exact ⟨y, (i0 y).mp q.symm⟩
    · have := (i1 y).mp q.symm
      refine ⟨x - y, ?_⟩
      rw [Int.mul_sub, this, hxs, Int.mul_comm len x]; omega
    · exact ⟨y, q.symm⟩
  have q0 := (i0 y).mpr hy
  have q1 := (i1 (x - y)).mpr (by rw [Int.mul_sub, hy, hxs, Int.mul_comm len x])
  have w0 : x * ar / len = y := by rw [← hy]; exact Int.mul_ediv_cancel_left _ (by omega)
  refine ⟨⟨y, hy.symm⟩, ⟨y, q0.symm⟩, ⟨x - y, q1.symm⟩, ?_, ?_⟩
  · rw [w0, ← q0]; exact Int.mul_ediv_cancel_left _ (by omega)
  · rw [w0, ← q1]; exact Int.mul_ediv_cancel_left _ (by omega)
section Share2
variable {a g : Hp} {all c T L T0 L0 T1 L1 : Int} {E M E' j : Nat}
theorem nrS_nn (hI : Inv a) (c : Int) : 0 ≤ nrS a c := by
  unfold nrS sd
  split
  · exact ldx_nn hI (fun _ _ => by decide) _
  · exact Int.le_refl 0
theorem nrS_eq (hI : Inv a) (hc : 0 ≤ c) (hN : c < a 53 5) : nrS a c = 1 + nrS a (a 66 c.toNat) + nrS a (a 67 c.toNat) := by
  unfold nrS
  have := ld_eq (v := fun _ => 1) hI (k := c.toNat) (by omega)
  have e : sd a (fun _ => 1) c = ld a (fun _ => 1) c.toNat := if_pos hc
  rw [e, this]
theorem nrS_neg (hc : c < 0) : nrS a c = 0 := if_neg (by omega)
theorem pow_s (j : Nat) : (1000 : Int) ^ (j + 1) = 1000 ^ j * 1000 := Int.pow_succ ..
theorem pow_le6 {j : Nat} (h : j ≤ 6) : (1000 : Int) ^ j ≤ 1000000000000000000 := by
  have h1 : (1000 : Nat) ^ j ≤ 1000 ^ 6 := Nat.pow_le_pow_right (by omega) h
  have h2 : ((1000 ^ j : Nat) : Int) = (1000 : Int) ^ j := Int.natCast_pow ..
  have h3 : (1000 : Nat) ^ 6 = 1000000000000000000 := by decide
  omega
theorem Fs_rod (h0 : 0 < all) (ha : all ≤ 10000000) (hI : Inv a) (hc : 0 ≤ c) (hN : c < a 53 5) (hlen : 2 ≤ a 59 c.toNat ∧ a 59 c.toNat ≤ 1000) (har : 1 ≤ arL a c.toNat ∧ arL a c.toNat < a 59 c.toNat) (r0 : Rl T L (arR a c.toNat) (a 59 c.toNat) T0 L0) (r1 : Rl T L (arL a c.toNat) (a 59 c.toNat) T1 L1) (f0 : Fs a all g E M (a 66 c.toNat) T0 L0 (j + 1)) (f1 : Fs a all g M E' (a 67 c.toNat) T1 L1 (j + 1)) : Fs a all g E E' c T L j := fun f hf => by
  have hnr := nrS_eq hI hc hN
  have hn0 := nrS_nn hI (a 66 c.toNat)
  have hn1 := nrS_nn hI (a 67 c.toNat)
  obtain ⟨f, rfl⟩ : ∃ f', f = f' + 1 := ⟨f - 1, by omega⟩
  obtain ⟨l0, A0, B0, W0', Z0⟩ := f0 f (by omega)
  obtain ⟨l1, A1, B1, W1, Z1⟩ := f1 f (by omega)
  have harR : 1 ≤ arR a c.toNat ∧ arR a c.toNat < a 59 c.toNat := by unfold arR; omega
  have hsum : arR a c.toNat + arL a c.toNat = a 59 c.toNat := by unfold arR; omega
  have hts : ∀ x, toS a (f + 1) c x = toS a f (a 66 c.toNat) (x * arR a c.toNat / a 59 c.toNat) ++ toS a f (a 67 c.toNat) (x - x * arR a c.toNat / a 59 c.toNat) := fun x => by
    show (if c < 0 then [x] else _) = _
    rw [if_neg (by omega)]
  have hwh : ∀ x, whS a (f + 1) c x ↔ (a 59 c.toNat ∣ x * arR a c.toNat ∧ whS a f (a 66 c.toNat) (x * arR a c.toNat / a 59 c.toNat) ∧ whS a f (a 67 c.toNat) (x - x * arR a c.toNat / a 59 c.toNat)) := fun x => by
    show (c < 0 ∨ _) ↔ _
    exact ⟨fun q => q.resolve_left (by omega), Or.inr⟩
  generalize a 59 c.toNat = len at *
  generalize arR a c.toNat = ar at *
  generalize arL a c.toNat = al at *
  have hL7 : 0 < T → T ≤ L → Int.gcd T L = 1 → L ∣ all * T → L ≤ 10000000 := fun a1 a2 a3 a4 => by
    have := (dvd_okE h0 ha a1 a2 a3 a4).1
    omega
  have hmul : ∀ B : Int, 0 < T → T ≤ L → L ≤ B → L * len ≤ B * 1000 := fun B a1 a2 a3 => Int.mul_le_mul a3 hlen.2 (by omega) (by omega)
  refine ⟨fun x => ?_, fun a1 a2 a3 a4 => ?_, fun a1 a2 a3 a4 a5 a6 a7 => ?_, fun a1 a2 a3 a4 a5 => ?_, fun a1 a2 e q1 q2 => ?_⟩
  · rw [hts, List.length_append]
    have := l0 (x * ar / len)
    have := l1 (x - x * ar / len)
    omega
  · obtain ⟨b1, b2⟩ := a3.resolve_left (by omega)
    have hm := hmul _ a1 a2 b1
    rw [← pow_s] at hm
    have hj := pow_le6 (j := j + 1) (by omega)
    obtain ⟨c0, hc0, e1, e2, _, p1, p2, p3⟩ := sh_ex a1 a2 harR (by omega) r0
    obtain ⟨c1, hc1, e3, e4, _, p4, p5, p6⟩ := sh_ex a1 a2 har (by omega) r1
    obtain ⟨y0, h0'⟩ := A0 p1 p2 (Or.inr ⟨by omega, by omega⟩) fun e q1 q2 => a4 e q1 (by have := l1 0; omega)
    obtain ⟨y1, h1'⟩ := A1 p4 p5 (Or.inr ⟨by omega, by omega⟩) fun e q1 q2 => a4 e (by have := l0 0; omega) q2
    exact ⟨y0 + y1, sh_sum (by omega) hsum e1 e2 e3 e4 h0' h1'⟩
  · have hL := hL7 a1 a2 a3 a6
    have hm := hmul _ a1 a2 hL
    have hm2 := hmul _ a1 a2 a4
    rw [← pow_s] at hm2
    obtain ⟨c0, hc0, e1, e2, g0, p1, p2, p3⟩ := sh_ex a1 a2 harR (by omega) r0
    obtain ⟨c1, hc1, e3, e4, g1, p4, p5, p6⟩ := sh_ex a1 a2 har (by omega) r1
    have ok0 : ∀ e, E ≤ e → e < M → okE all (g 92 e) (g 93 e) := fun e q1 q2 => a7 e q1 (by have := l1 0; omega)
    have ok1 : ∀ e, M ≤ e → e < E' → okE all (g 92 e) (g 93 e) := fun e q1 q2 => a7 e (by have := l0 0; omega) q2
    have key : L0 ∣ all * T0 ∨ L1 ∣ all * T1 := by
      by_cases q0 : a 66 c.toNat < 0
      · exact Or.inl (A0 p1 p2 (Or.inl q0) ok0)
      · by_cases q1 : a 67 c.toNat < 0
        · exact Or.inr (A1 p4 p5 (Or.inl q1) ok1)
        · refine Or.inl (A0 p1 p2 (Or.inr ⟨by omega, ?_⟩) ok0)
          have : 1 ≤ nrS a (a 67 c.toNat) := by
            have hb := ((hI.2.2.1 c.toNat (by omega)).1).2.2.2.2.2.1
            rw [nrS_eq hI (by omega) hb]
            have := nrS_nn hI (a 66 (a 67 c.toNat).toNat)
            have := nrS_nn hI (a 67 (a 67 c.toNat).toNat)
            omega
          omega
    obtain ⟨z1, z2, z3, z4, z5⟩ := sh_fin (c0 := c0) (c1 := c1) hlen.1 hsum hc0 hc1 (by omega) e1 e2 e3 e4 (by omega) (by omega) a6 (by rcases key with k | k; exact Or.inl k; exact Or.inr (Or.inl k))
    rw [hwh]
    refine ⟨z1, ?_, ?_⟩
    · rw [← z4]; exact B0 p1 p2 g0 (by omega) (by omega) z2 ok0
    · rw [← z5]; exact B1 p4 p5 g1 (by omega) (by omega) z3 ok1
  · rw [hwh] at a5
    obtain ⟨w1, w2, w3⟩ := a5
    have hL := hL7 a1 a2 a3 a4
    have hm := hmul _ a1 a2 hL
    obtain ⟨c0, hc0, e1, e2, g0, p1, p2, p3⟩ := sh_ex a1 a2 harR (by omega) r0
    obtain ⟨c1, hc1, e3, e4, g1, p4, p5, p6⟩ := sh_ex a1 a2 har (by omega) r1
    obtain ⟨z1, z2, z3, z4, z5⟩ := sh_fin (c0 := c0) (c1 := c1) hlen.1 hsum hc0 hc1 (by omega) e1 e2 e3 e4 (by omega) (by omega) a4 (Or.inr (Or.inr w1))
    rw [← z4] at w2
    rw [← z5] at w3
    obtain ⟨u1, u2⟩ := W0' p1 p2 g0 z2 w2
    obtain ⟨u3, u4⟩ := W1 p4 p5 g1 z3 w3
    refine ⟨fun e q1 q2 => ?_, fun i y hi => ?_⟩
    · rcases Nat.lt_or_ge e M with q | q
      · exact u1 e q1 q
      · exact u3 e q q2
    · rw [hts, ← z5, ← z4] at hi
      have hl := l0 (all * T0 / L0)
      rcases Nat.lt_or_ge i (toS a f (a 66 c.toNat) (all * T0 / L0)).length with q | q
      · rw [List.getElem?_append_left q] at hi
        exact u2 i y hi
      · rw [List.getElem?_append_right q] at hi
        have := u4 _ y hi
        rw [show M + (i - (toS a f (a 66 c.toNat) (all * T0 / L0)).length) = E + i by omega] at this
        exact this
  · rcases Nat.lt_or_ge e M with q | q
    · exact Z0 (Rl_val (by omega) r0 (by omega) a1) (by omega) e q1 q
    · exact Z1 (Rl_val (by omega) r1 (by omega) a1) (by omega) e q q2
end Share2
