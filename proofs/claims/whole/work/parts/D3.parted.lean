/-! PARTED OF THE REFERENCE -/
set_option maxHeartbeats 8000000 in
set_option maxRecDepth 4000 in
theorem bX12_parted_210w {d n : Nat} {dy : Nat → Shp} {g : Hp} {P : Pst} {x1 : Int} {x2 : Int} {x3 : Int} {x4 : Int} {x5 : Int} {x7 : Int} {x8 : Int} (hn : 100 ≤ n) (h : (i3 x8) ∧ (((g 53 41) ≤ x8) → P (some (I_ 0)) n (W0 dy) g) ∧ ((x8 < (g 53 41)) → (((g 53 51) ≠ 0) → (0 ≤ x8 ∧ x8 < 8) ∧ V miX12_parted (d + 1) 210 [(0, .ref 53), (1, I_ x1), (2, I_ x2), (3, I_ x3), (4, I_ x4), (5, L_ x5), (7, I_ x7), (8, I_ (x8 + 1))] [] n (W0 dy) (up2 g 88 x8.toNat ((-1))) 0 0 P) ∧ (((g 53 51) = 0) → (0 ≤ x8 ∧ x8 < 8) ∧ (i6 x5) ∧ ((x5 < (g 93 x8.toNat)) → V miX12_parted (d + 1) 210 [(0, .ref 53), (1, I_ x1), (2, I_ x2), (3, I_ x3), (4, I_ x4), (5, L_ x5), (7, I_ x7), (8, I_ (x8 + 1))] [] n (W0 dy) (up2 g 88 x8.toNat ((-1))) 0 0 P) ∧ (((g 93 x8.toNat) ≤ x5) → ∀ yp : Int, yp = bm6 (x5 * (g 92 x8.toNat)) → (i6 yp) ∧ (g 93 x8.toNat ≠ 0) ∧ (i6 (yp.tmod (g 93 x8.toNat))) ∧ (((yp.tmod (g 93 x8.toNat)) = 0) → (g 93 x8.toNat ≠ 0) ∧ ∀ y27 : Int, y27 = bm6 (yp.tdiv (g 93 x8.toNat)) → (i6 y27) ∧ V miX12_parted (d + 1) 210 [(0, .ref 53), (1, I_ x1), (2, I_ x2), (3, I_ x3), (4, I_ x4), (5, L_ x5), (7, I_ x7), (8, I_ (x8 + 1))] [] n (W0 dy) (up2 g 88 x8.toNat y27) 0 0 P) ∧ (((yp.tmod (g 93 x8.toNat)) ≠ 0) → V miX12_parted (d + 1) 210 [(0, .ref 53), (1, I_ x1), (2, I_ x2), (3, I_ x3), (4, I_ x4), (5, L_ x5), (7, I_ x7), (8, I_ (x8 + 1))] [] n (W0 dy) (up2 g 88 x8.toNat ((-1))) 0 0 P))))) : V miX12_parted (d + 1) 210 [(0, .ref 53), (1, I_ x1), (2, I_ x2), (3, I_ x3), (4, I_ x4), (5, L_ x5), (7, I_ x7), (8, I_ x8)] [] n (W0 dy) g 0 0 P := by
  refine v_iload 119 7 rfl rfl ?_
  refine v_aload_n 120 0 rfl rfl rfl ?_
  refine v_gI 121 rfl fl12_340_11.r (al 53 rfl hn) (wk53 dy) (by decide) rfl (wc53_41 dy) (x := g 53 41) rfl ?_
  refine v_rng fun w1 => ?_
  have p2 : i3 (g 53 41) := rI w1 (q := 41) (al 53 rfl hn) (wk53 dy) rfl rfl
  have c3 := h.1
  have h := h.2
  refine v_icmp_ge 122 rfl (tgt := 299) rfl c3 p2 (fun q4 => ?_) (fun q4 => ?_)
  · have h := h.1 q4
    refine v_iconst 166 rfl ?_
    exact v_ret (v := some (I_ 0)) 167 rfl (Nat.zero_le _) (Nat.zero_le _) trivial rfl h
  · have h := h.2 q4
    refine v_aload_n 123 0 rfl rfl rfl ?_
    refine v_gK 124 rfl fl12_115_11.r (al 53 rfl hn) (wk53 dy) (by decide) rfl (r := 88) (wc53_45 dy) ?_
    refine v_iload 125 7 rfl rfl ?_
    refine v_aload_n 126 0 rfl rfl rfl ?_
    refine v_gI 127 rfl fl12_348_11.r (al 53 rfl hn) (wk53 dy) (by decide) rfl (wc53_51 dy) (x := g 53 51) rfl ?_
    refine v_rng fun w5 => ?_
    have p6 : i3 (g 53 51) := rI w5 (q := 51) (al 53 rfl hn) (wk53 dy) rfl rfl
    refine v_if_ne 128 rfl (tgt := 268) rfl p6 (fun q7 => ?_) (fun q7 => ?_)
    · have h := h.1 q7
      refine v_ldc2 (v := (-1)) 150 rfl (tbG_in (List.mem_append_right _ (List.mem_of_getElem? (i := 1334) (by decide +kernel))) rfl) ?_
      refine v_goto 151 rfl (tgt := 292) rfl ?_
      have c8 := h.1
      have h := h.2
      refine v_last (N := 8) 163 rfl (al 88 rfl hn) (wk88 dy) (wn88 dy) (by decide) c8 (by decide) ?_
      refine v_iinc 164 7 [1, 2, 3, 4, 5, 6, 7, 0] rfl rfl (by decide) rfl ?_
      refine v_goto 165 rfl (tgt := 210) rfl ?_
      exact h
    · have h := h.2 q7
      refine v_aload_n 129 0 rfl rfl rfl ?_
      refine v_gK 130 rfl fl12_130_11.r (al 53 rfl hn) (wk53 dy) (by decide) rfl (r := 93) (wc53_50 dy) ?_
      refine v_iload 131 7 rfl rfl ?_
      have c9 := h.1
      have h := h.2
      refine v_la (N := 8) 132 rfl (al 93 rfl hn) (wk93 dy) (wn93 dy) (by decide) c9 (y := g 93 x8.toNat) rfl ?_
      refine v_rng fun w10 => ?_
      have p11 : i6 (g 93 x8.toNat) := rL w10 (q := x8.toNat) (al 93 rfl hn) (wk93 dy) rfl rfl
      refine v_lload 133 5 rfl rfl ?_
      have c12 := h.1
      have h := h.2
      refine v_lif_gt 134 rfl rfl (tgt := 268) rfl p11 c12 (fun q13 => ?_) (fun q13 => ?_)
      · have h := h.1 q13
        refine v_ldc2 (v := (-1)) 150 rfl (tbG_in (List.mem_append_right _ (List.mem_of_getElem? (i := 1334) (by decide +kernel))) rfl) ?_
        refine v_goto 151 rfl (tgt := 292) rfl ?_
        refine v_last (N := 8) 163 rfl (al 88 rfl hn) (wk88 dy) (wn88 dy) (by decide) c9 (by decide) ?_
        refine v_iinc 164 7 [1, 2, 3, 4, 5, 6, 7, 0] rfl rfl (by decide) rfl ?_
        refine v_goto 165 rfl (tgt := 210) rfl ?_
        exact h
      · have h := h.2 q13
        refine v_lload 136 5 rfl rfl ?_
        refine v_aload_n 137 0 rfl rfl rfl ?_
        refine v_gK 138 rfl fl12_127_11.r (al 53 rfl hn) (wk53 dy) (by decide) rfl (r := 92) (wc53_49 dy) ?_
        refine v_iload 139 7 rfl rfl ?_
        refine v_la (N := 8) 140 rfl (al 92 rfl hn) (wk92 dy) (wn92 dy) (by decide) c9 (y := g 92 x8.toNat) rfl ?_
        refine v_rng fun w14 => ?_
        have p15 : i6 (g 92 x8.toNat) := rL w14 (q := x8.toNat) (al 92 rfl hn) (wk92 dy) rfl rfl
        refine v_lmul 141 rfl ?_
        refine v_wrL ?_
        refine v_nmL (fun yp eyp => ?_)
        have h := h yp eyp
        refine v_aload_n 142 0 rfl rfl rfl ?_
        refine v_gK 143 rfl fl12_130_11.r (al 53 rfl hn) (wk53 dy) (by decide) rfl (r := 93) (wc53_50 dy) ?_
        refine v_iload 144 7 rfl rfl ?_
        refine v_la (N := 8) 145 rfl (al 93 rfl hn) (wk93 dy) (wn93 dy) (by decide) c9 (y := g 93 x8.toNat) rfl ?_
        refine v_rng fun w16 => ?_
        have p17 : i6 (g 93 x8.toNat) := rL w16 (q := x8.toNat) (al 93 rfl hn) (wk93 dy) rfl rfl
        have c18 := h.1
        have h := h.2
        have c19 := h.1
        have h := h.2
        refine v_lrem 146 rfl c18 p17 c19 ?_
        refine v_lconst (v := 0) 147 rfl (by decide) ?_
        have c20 := h.1
        have h := h.2
        refine v_lif_eq 148 rfl rfl (tgt := 274) rfl c20 (by decide) (fun q21 => ?_) (fun q21 => ?_)
        · have h := h.1 q21
          refine v_lload 152 5 rfl rfl ?_
          refine v_aload_n 153 0 rfl rfl rfl ?_
          refine v_gK 154 rfl fl12_127_11.r (al 53 rfl hn) (wk53 dy) (by decide) rfl (r := 92) (wc53_49 dy) ?_
          refine v_iload 155 7 rfl rfl ?_
          refine v_la (N := 8) 156 rfl (al 92 rfl hn) (wk92 dy) (wn92 dy) (by decide) c9 (y := g 92 x8.toNat) rfl ?_
          refine v_rng fun w22 => ?_
          have p23 : i6 (g 92 x8.toNat) := rL w22 (q := x8.toNat) (al 92 rfl hn) (wk92 dy) rfl rfl
          refine v_lmul 157 rfl ?_
          refine v_wrL ?_
          rw [← eyp]
          refine v_aload_n 158 0 rfl rfl rfl ?_
          refine v_gK 159 rfl fl12_130_11.r (al 53 rfl hn) (wk53 dy) (by decide) rfl (r := 93) (wc53_50 dy) ?_
          refine v_iload 160 7 rfl rfl ?_
          refine v_la (N := 8) 161 rfl (al 93 rfl hn) (wk93 dy) (wn93 dy) (by decide) c9 (y := g 93 x8.toNat) rfl ?_
          refine v_rng fun w24 => ?_
          have p25 : i6 (g 93 x8.toNat) := rL w24 (q := x8.toNat) (al 93 rfl hn) (wk93 dy) rfl rfl
          have c26 := h.1
          have h := h.2
          refine v_ldiv 162 rfl c18 p25 c26 ?_
          refine v_wrL ?_
          refine v_nmL (fun y27 ey27 => ?_)
          have h := h y27 ey27
          have c28 := h.1
          have h := h.2
          refine v_last (N := 8) 163 rfl (al 88 rfl hn) (wk88 dy) (wn88 dy) (by decide) c9 c28 ?_
          refine v_iinc 164 7 [1, 2, 3, 4, 5, 6, 7, 0] rfl rfl (by decide) rfl ?_
          refine v_goto 165 rfl (tgt := 210) rfl ?_
          exact h
        · have h := h.2 q21
          refine v_ldc2 (v := (-1)) 150 rfl (tbG_in (List.mem_append_right _ (List.mem_of_getElem? (i := 1334) (by decide +kernel))) rfl) ?_
          refine v_goto 151 rfl (tgt := 292) rfl ?_
          refine v_last (N := 8) 163 rfl (al 88 rfl hn) (wk88 dy) (wn88 dy) (by decide) c9 (by decide) ?_
          refine v_iinc 164 7 [1, 2, 3, 4, 5, 6, 7, 0] rfl rfl (by decide) rfl ?_
          refine v_goto 165 rfl (tgt := 210) rfl ?_
          exact h
noncomputable def ic (p : Prop) (x y : Int) : Int := @ite _ p (Classical.propDecidable p) x y
theorem ic_t {p : Prop} {x y : Int} (h : p) : ic p x y = x := if_pos h
theorem ic_f {p : Prop} {x y : Int} (h : ¬ p) : ic p x y = y := if_neg h
/-- the numbers of tray t that are parted -/
def vlO (a : Hp) (t N : Nat) : Prop := ∀ i, i < N → 1 ≤ a 56 (16 * t + i) ∧ a 56 (16 * t + i) ≤ 1000000
def vlA (a : Hp) (t N : Nat) : Int := sumN (fun i => a 56 (16 * t + i)) N
/-- what ways and fill refuse -/
noncomputable def stP (a : Hp) (x1 x2 x3 x4 : Int) : Int :=
  ic (x2 < 0 ∨ 6 ≤ x2) 1 (ic (¬ (0 ≤ x1 ∧ x1 < a 53 5)) 2 (ic (a 55 x2.toNat < 0) 3 (ic (x4 ≠ 0 ∧ (x3 < 0 ∨ a 55 x2.toNat ≤ x3)) 4 (ic (¬ (a 57 x1.toNat = 2 ∨ a 57 x1.toNat = 3)) 5 (ic (a 55 x2.toNat < 2 ∨ 10 < a 55 x2.toNat ∨ ¬ vlO a x2.toNat (a 55 x2.toNat).toNat) 7 (ic (0 ≤ a 60 x1.toNat) 8 (ic (¬ ShO a x1.toNat) 9 0)))))))
section Parted
variable {d n : Nat} {dy : Nat → Shp} {a g : Hp} {P : Pst}
theorem toS_b (hI : Inv a) : ∀ (f : Nat) (c x : Int), c < a 53 5 → (0 ≤ c → ∀ y : Nat, (y : Int) < a 53 5 → abv (a 60) c.toNat 60 y = true → OKp a y) → whS a f c x → 1 ≤ x → ∀ y, y ∈ toS a f c x → 1 ≤ y ∧ y ≤ x
  | 0, c, x, hc, hok, hw, hx, y, hy => by
    have : y = x := List.mem_singleton.mp hy
    omega
  | f + 1, c, x, hc, hok, hw, hx, y, hy => by
    obtain ⟨dp, hD⟩ := hI.dp
    unfold toS at hy
    by_cases c0 : c < 0
    · rw [if_pos c0] at hy
      have : y = x := List.mem_singleton.mp hy
      omega
    · rw [if_neg c0] at hy
      obtain ⟨k, rfl⟩ := Int.eq_ofNat_of_zero_le (by omega : 0 ≤ c)
      have hK := hok (by omega) k hc (abv_self hD hI.1.2 hc)
      obtain ⟨hlen, har, harR⟩ := ar_b hI hc hK
      obtain ⟨_, _, _, ⟨l1, l2, l3⟩, ⟨r1, r2, r3⟩⟩ := (hI.2.2.1 k hc).1
      have hw' : a 59 k ∣ x * arR a k ∧ whS a f (a 66 k) (x * arR a k / a 59 k) ∧ whS a f (a 67 k) (x - x * arR a k / a 59 k) := (show (k : Int) < 0 ∨ _ from hw).resolve_left c0
      obtain ⟨w1, w2, w3⟩ := hw'
      have hy' : y ∈ toS a f (a 66 k) (x * arR a k / a 59 k) ++ toS a f (a 67 k) (x - x * arR a k / a 59 k) := hy
      have e : x * arR a k / a 59 k * a 59 k = x * arR a k := Int.ediv_mul_cancel w1
      generalize x * arR a k / a 59 k = z at *
      have p1 : 0 < x * arR a k := Int.mul_pos (by omega) (by omega)
      have p2 : x * arR a k < x * a 59 k := Int.mul_lt_mul_of_pos_left (by omega) (by omega)
      have z1 : 0 < z := Int.pos_of_mul_pos_left (b := a 59 k) (by omega) (by omega)
      have z2 : z < x := Int.lt_of_mul_lt_mul_right (a := a 59 k) (by omega) (by omega)
      have kid : ∀ q : Int, (0 ≤ q → a 60 q.toNat = (k : Int)) → q < a 53 5 → 0 ≤ q → ∀ y : Nat, (y : Int) < a 53 5 → abv (a 60) q.toNat 60 y = true → OKp a y := fun q hq hqN q0 y hyN hab => hok (by omega) y hyN (abv_up hD hI.1.2 hc (c := q.toNat) (by omega) (hq q0) (dp y) y rfl hyN hab)
      rcases List.mem_append.mp hy' with hy' | hy'
      · have := toS_b hI f (a 66 k) z l2 (kid _ (fun q => (l3 q).1) l2) w2 (by omega) y hy'
        omega
      · have := toS_b hI f (a 67 k) (x - z) r2 (kid _ (fun q => (r3 q).1) r2) w3 (by omega) y hy'
        omega
def lvP (a g : Hp) : Prop := ∀ i q, (i < 86 ∨ 93 < i) → ¬ (i = 53 ∧ (q = 41 ∨ q = 42 ∨ q = 51)) → g i q = a i q
theorem lvP.up {i k : Nat} {x : Int} (h : lvP a g) (hi : (86 ≤ i ∧ i ≤ 93) ∨ (i = 53 ∧ (k = 41 ∨ k = 42 ∨ k = 51))) : lvP a (up2 g i k x) := fun j q h1 h2 => by
  rw [show up2 g i k x j q = g j q from if_neg (fun z => by omega)]
  exact h j q h1 h2
theorem lvP.tr {g' : Hp} (h : lvP a g) (h' : lvT g g') : lvP a g' := fun i q h1 h2 => (h' i q (by omega) (by omega) (by omega) (by omega) (by omega) (by omega) (by omega)).trans (h i q h1 h2)
/-- what the ends want, from left to right -/
def wnt (a : Hp) (t N k e : Nat) : Int := ((toS a 8 (k : Int) (vlA a t N))[e]?).getD 0
end Parted
