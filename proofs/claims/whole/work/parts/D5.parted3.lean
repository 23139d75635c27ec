/-! PARTED OF THE REFERENCE: all of it -/
section Parted3
variable {d n : Nat} {dy : Nat → Shp} {a g : Hp} {P : Pst}
theorem vlA_b {t N : Nat} (h : vlO a t N) (hN : N ≤ 10) (h2 : 1 ≤ N) : 0 < vlA a t N ∧ vlA a t N ≤ 10000000 := by
  have h1 := sumN_b (f := fun i => a 56 (16 * t + i)) (B := 1000000) N fun y hy => ⟨by have := h y hy; omega, (h y hy).2⟩
  have h3 := sumN_pos (f := fun i => a 56 (16 * t + i)) (n := N) (k := 0) (fun y hy => by have := h y hy; omega) (by omega) (by have := h 0 (by omega); show 0 < a 56 (16 * t + 0); omega)
  unfold vlA
  omega
theorem rs_parted {x1 x2 x3 x4 : Int} (hn : 100 ≤ n) (hI : Inv a) (h1 : i3 x1) (h2 : i3 x2) (h3 : i3 x3) (h4 : x4 = 0 ∨ x4 = 1)
    (hb : ∀ g' : Hp, lvP a g' → 0 < stP a x1 x2 x3 x4 → P (some (I_ (stP a x1 x2 x3 x4))) n (W0 dy) g')
    (h0 : ∀ (g' : Hp) (k t N : Nat), x1 = (k : Int) → x2 = (t : Int) → t < 6 → (N : Int) = a 55 t → stP a x1 x2 x3 x4 = 0 → lvP a g' → 2 ≤ N → N ≤ 10 → vlO a t N → (k : Int) < a 53 5 → ShO a k → g' 53 42 = (N : Int) → g' 53 41 = neS a (k : Int) → (∀ i, i < N → g' 89 i = a 56 (16 * t + i)) →
      (whS a 8 (k : Int) (vlA a t N) → ∀ e : Nat, (e : Int) < neS a (k : Int) → g' 88 e = wnt a t N k e) → (¬ whS a 8 (k : Int) (vlA a t N) → ∃ e : Nat, (e : Int) < neS a (k : Int) ∧ g' 88 e = -1) → P (some (I_ 0)) n (W0 dy) g') :
    Runs miX12_parted (d + 3) [.ref 53, I_ x1, I_ x2, I_ x3, I_ x4] n (W0 dy) a P := by
  have hN6 := hI.1
  have l0 : lvP a a := fun _ _ _ _ => rfl
  have fail : ∀ (s : Int) (g' : Hp), lvP a g' → stP a x1 x2 x3 x4 = s → 0 < s → P (some (I_ s)) n (W0 dy) g' := fun s g' hl e hs => by
    have := hb g' hl (by omega)
    rw [e] at this; exact this
  refine wX12_parted hn ⟨h2, fun q => fail 1 a l0 (ic_t (Or.inl q)) (by decide), fun q0 => ⟨fun q6 => ?_, fun q => fail 1 a l0 (ic_t (Or.inr q)) (by decide)⟩⟩
  have n1 : ¬ (x2 < 0 ∨ 6 ≤ x2) := by omega
  have e1 : stP a x1 x2 x3 x4 = ic (¬ (0 ≤ x1 ∧ x1 < a 53 5)) 2 (ic (a 55 x2.toNat < 0) 3 (ic (x4 ≠ 0 ∧ (x3 < 0 ∨ a 55 x2.toNat ≤ x3)) 4 (ic (¬ (a 57 x1.toNat = 2 ∨ a 57 x1.toNat = 3)) 5 (ic (a 55 x2.toNat < 2 ∨ 10 < a 55 x2.toNat ∨ ¬ vlO a x2.toNat (a 55 x2.toNat).toNat) 7 (ic (0 ≤ a 60 x1.toNat) 8 (ic (¬ ShO a x1.toNat) 9 0)))))) := ic_f n1
  have np : ¬ (0 ≤ x1 ∧ x1 < a 53 5) → V miX12_parted (d + 2 + 1) 17 [(0, .ref 53), (1, I_ x1), (2, I_ x2), (3, I_ x3), (4, I_ x4)] [I_ 0] n (W0 dy) a 0 0 P := fun q => bX12_parted_17 hn ⟨by decide, fun z => absurd rfl z, fun _ => fail 2 a l0 (e1.trans (ic_t q)) (by decide)⟩
  refine wX12_isPart hn ⟨h1, fun q => np (by omega), fun q1 => ⟨fun q => np (by omega), fun q2 => ?_⟩⟩
  obtain ⟨k, rfl⟩ := Int.eq_ofNat_of_zero_le q1
  obtain ⟨t, rfl⟩ := Int.eq_ofNat_of_zero_le q0
  have ht : t < 6 := by omega
  have e2 := e1.trans (ic_f (fun z => z ⟨q1, q2⟩))
  have hT := hI.2.1 t ht
  simp only [Int.toNat_natCast] at e2
  show V miX12_parted (d + 2 + 1) 17 [(0, .ref 53), (1, I_ (k : Int)), (2, I_ (t : Int)), (3, I_ x3), (4, I_ x4)] [I_ 1] n (W0 dy) a 0 0 P
  -- behind the tray and the place
  have go : ¬ a 55 t < 0 → ¬ (x4 ≠ 0 ∧ (x3 < 0 ∨ a 55 t ≤ x3)) → Runs miX12_isRod (d + 2) [.ref 53, I_ (k : Int)] n (W0 dy) a (fun v n' S' g' => V miX12_parted (d + 2 + 1) 59 [(0, .ref 53), (1, I_ (k : Int)), (2, I_ (t : Int)), (3, I_ x3), (4, I_ x4)] (v.toList ++ []) n' S' g' 0 0 P) := fun c3 c4 => by
    have e4 := (e2.trans (ic_f c3)).trans (ic_f c4)
    have rod : (a 57 k = 2 ∨ a 57 k = 3) → V miX12_parted (d + 2 + 1) 59 [(0, .ref 53), (1, I_ (k : Int)), (2, I_ (t : Int)), (3, I_ x3), (4, I_ x4)] [I_ 1] n (W0 dy) a 0 0 P := fun hr => by
      have e5 := e4.trans (ic_f (fun z => z hr))
      have l42 : ∀ x : Int, lvP a (up2 a 53 42 x) := fun x => l0.up (by omega)
      refine bX12_parted_59 hn ⟨by decide, fun _ => ⟨⟨by omega, by omega⟩, fun q => fail 7 _ (l42 _) (e5.trans (ic_t (Or.inl q))) (by decide), fun c5 => ⟨fun c6 => ?_, fun q => fail 7 _ (l42 _) (e5.trans (ic_t (Or.inr (Or.inl q)))) (by decide)⟩⟩, fun z => absurd z (by decide)⟩
      obtain ⟨N, hN⟩ := Int.eq_ofNat_of_zero_le (by omega : 0 ≤ a 55 t)
      have c5' : 2 ≤ a 55 t := c5
      have c6' : a 55 t ≤ 10 := c6
      rw [hN] at e5
      simp only [Int.toNat_natCast] at e5
      -- the shape
      have shape : ∀ G : Hp, lvP a G → G 53 42 = (N : Int) → (∀ i, i < N → G 89 i = a 56 (16 * t + i)) → vlO a t N → G 53 51 = 0 → a 60 k < 0 → ∀ x7 : Int, Runs miX12_shapes (d + 2) [.ref 53, I_ (k : Int)] n (W0 dy) G (fun v n' S' g' => V miX12_parted (d + 2 + 1) 197 [(0, .ref 53), (1, I_ (k : Int)), (2, I_ (t : Int)), (3, I_ x3), (4, I_ x4), (5, L_ (vlA a t N)), (7, I_ x7)] (v.toList ++ []) n' S' g' 0 0 P) := fun G hG g42 g89 hvl g51 hon x7 => by
        have hIG : Inv G := hI.cg hG.rz
        have heq := hG.eq
        obtain ⟨ha0, ha1⟩ := vlA_b hvl (by omega) (by omega)
        obtain ⟨hnn, hn1⟩ := nr_top hI q2
        have e7 := (e5.trans (ic_f (fun z => by rcases z with z | z | z; omega; omega; exact z hvl))).trans (ic_f (by omega : ¬ 0 ≤ a 60 k))
        have hall6 : i6 (vlA a t N) := ⟨by omega, by omega⟩
        refine rs_shapes (all := vlA a t N) hn hIG (by rw [heq.2]; exact q2) ha0 ha1 (fun g' hl hbad => ?_) (fun g' hl hok hw g51' g41 => ?_) (fun g' hl hok g41 hF => ?_)
        · refine bX12_parted_197 hn ⟨by decide, fun z => absurd z (by decide), fun _ => ?_⟩
          exact fail 9 g' (hG.tr hl) (e7.trans (ic_t fun z => hbad ((ShO_cgS heq k).mpr z))) (by decide)
        · have hok' := (ShO_cgS heq k).mp hok
          rw [neS_cgS heq] at g41
          rw [whS_cgS heq] at hw
          obtain ⟨m, hm⟩ := Int.eq_ofNat_of_zero_le (by omega : 0 ≤ neS a (k : Int))
          have hm8 := hok'.2
          refine bX12_parted_197 hn ⟨by decide, fun _ => ?_, fun z => absurd z (by decide)⟩
          refine want_loop (m := m) hn (by omega) hall6 m 0 g' (by omega) (hG.tr hl) (by rw [g41, hm]) (fun z => by omega) (fun e' he' => by omega) fun G' k1 k2 k3 k4 => ?_
          refine h0 G' k t N rfl rfl ht hN.symm (e7.trans (ic_f fun z => z hok')) k1 (by omega) (by omega) hvl q2 hok' ?_ (by rw [k2, hm]) (fun i hi => ?_) (fun z => absurd z hw) fun _ => ⟨0, by omega, ?_⟩
          · rw [k3 53 42 (by decide), hl 53 42 (by decide) (by decide) (by decide) (by decide) (by decide) (by decide) (by decide)]; exact g42
          · rw [k3 89 i (by decide), hl 89 i (by decide) (by decide) (by decide) (by decide) (by decide) (by decide) (by omega)]; exact g89 i hi
          · refine (k4 0 (by omega)).1 ?_
            rw [k3 53 51 (by decide), g51']; decide
        · have hok' := (ShO_cgS heq k).mp hok
          rw [neS_cgS heq] at g41 hF
          obtain ⟨m, hm⟩ := Int.eq_ofNat_of_zero_le (by omega : 0 ≤ neS a (k : Int))
          have hm8 := hok'.2
          rw [hm] at hF
          obtain ⟨F0, _, FB, FW, FZ⟩ := hF 8 (by rw [nrS_cgS heq]; omega)
          have h51 : g' 53 51 = 0 := (hl 53 51 (by decide) (by decide) (by decide) (by decide) (by decide) (by decide) (by decide)).trans g51
          have hz := FZ (by decide) (by rw [nrS_cgS heq]; show ((0 : Nat) : Int) + nrS a (k : Int) ≤ 7; omega)
          refine bX12_parted_197 hn ⟨by decide, fun _ => ?_, fun z => absurd z (by decide)⟩
          refine want_loop (m := m) hn (by omega) hall6 m 0 g' (by omega) (hG.tr hl.t) (by rw [g41, hm]) (fun _ e' he' => hz e' (Nat.zero_le _) he') (fun e' he' => by omega) fun G' k1 k2 k3 k4 => ?_
          have h51' : G' 53 51 = 0 := (k3 53 51 (by decide)).trans h51
          have kk : ∀ e', e' < m → (okE (vlA a t N) (g' 92 e') (g' 93 e') → G' 88 e' = bm6 ((bm6 (vlA a t N * g' 92 e')).tdiv (g' 93 e'))) ∧ (¬ okE (vlA a t N) (g' 92 e') (g' 93 e') → G' 88 e' = -1) := fun e' he' => by
            have := (k4 e' he').2 h51'
            rw [k3 92 e' (by decide), k3 93 e' (by decide)] at this
            exact this
          have e1' : vlA a t N * 1 / 1 = vlA a t N := by rw [Int.mul_one, Int.ediv_one]
          refine h0 G' k t N rfl rfl ht hN.symm (e7.trans (ic_f fun z => z hok')) k1 (by omega) (by omega) hvl q2 hok' ?_ (by rw [k2, hm]) (fun i hi => ?_) (fun hw e he => ?_) fun hw => ?_
          · rw [k3 53 42 (by decide), hl 53 42 (by decide) (by decide) (by decide) (by decide) (by decide) (by decide) (by decide)]; exact g42
          · rw [k3 89 i (by decide), hl 89 i (by decide) (by decide) (by decide) (by decide) (by decide) (by decide) (by omega)]; exact g89 i hi
          · obtain ⟨w1, w2⟩ := FW (by decide) (by decide) (by decide) (Int.one_dvd _) (by rw [e1', whS_cgS heq]; exact hw)
            rw [e1'] at w2
            have hle : e < (toS G 8 (k : Int) (vlA a t N)).length := by
              have := F0 (vlA a t N)
              have e3 : ((m : Int)).toNat = m := rfl
              omega
            have hget := List.getElem?_eq_getElem hle
            obtain ⟨w3, w4⟩ := w2 e _ hget
            rw [Nat.zero_add] at w3 w4
            have hok2 := w1 e (Nat.zero_le _) (by omega)
            rw [(kk e (by omega)).1 hok2]
            have hwn : wnt a t N k e = (toS G 8 (k : Int) (vlA a t N))[e] := by
              unfold wnt
              rw [← toS_cgS heq, hget]; rfl
            rw [hwn]
            have hmem : (toS G 8 (k : Int) (vlA a t N))[e] ∈ toS a 8 (k : Int) (vlA a t N) := (toS_cgS heq 8 (k : Int) (vlA a t N)) ▸ List.getElem_mem hle
            have hyb := toS_b hI 8 (k : Int) (vlA a t N) q2 (fun _ => hok'.1) hw (by omega) _ hmem
            generalize (toS G 8 (k : Int) (vlA a t N))[e] = y at *
            have hle2 := hok2.1
            have hp : y * g' 93 e ≤ 10000000 * 10000000 := Int.mul_le_mul (by omega) (by omega) (by omega) (by omega)
            have hp0 : 0 < y * g' 93 e := Int.mul_pos (by omega) w4
            rw [← w3, bm6_id (x := y * g' 93 e) ⟨by omega, by omega⟩, Int.mul_tdiv_cancel _ (by omega), bm6_id (x := y) ⟨by omega, by omega⟩]
          · have hw' : ¬ ∀ e, 0 ≤ e → e < ((m : Int)).toNat → okE (vlA a t N) (g' 92 e) (g' 93 e) := fun z => by
              refine hw ?_
              have := FB (by decide) (by decide) (by decide) (by decide) (by rw [nrS_cgS heq]; show ((0 : Nat) : Int) + nrS a (k : Int) ≤ 7; omega) (Int.one_dvd _) z
              rw [e1', whS_cgS heq] at this
              exact this
            obtain ⟨e, he⟩ := Classical.not_forall.mp hw'
            rcases Classical.em (e < m) with c | c
            · refine ⟨e, by omega, (kk e c).2 fun z => he fun _ _ => z⟩
            · exact absurd (fun _ (z : e < ((m : Int)).toNat) => absurd z c) he
      -- the numbers
      have nums : ∀ (r i : Nat) (G : Hp), i + r = N → lvP a G → G 53 42 = (N : Int) → (∀ j, j < i → G 89 j = a 56 (16 * t + j) ∧ 1 ≤ a 56 (16 * t + j) ∧ a 56 (16 * t + j) ≤ 1000000) → V miX12_parted (d + 2 + 1) 100 [(0, .ref 53), (1, I_ (k : Int)), (2, I_ (t : Int)), (3, I_ x3), (4, I_ x4), (5, L_ (sumN (fun j => a 56 (16 * t + j)) i)), (7, I_ (i : Int))] [] n (W0 dy) G 0 0 P := by
        intro r
        induction r with
        | zero =>
          intro i G hi hG g42 gd
          have ei : i = N := by omega
          subst ei
          have hvl : vlO a t i := fun j hj => (gd j hj).2
          have e60 : G 60 k = a 60 k := hG 60 k (by decide) (by omega)
          refine bX12_parted_100 hn ⟨⟨by omega, by omega⟩, fun _ => ⟨⟨by omega, by omega⟩, fun q => ?_, fun q => ?_⟩, fun q => by omega⟩
          · refine shape (up2 G 53 51 0) (hG.up (by omega)) (by rw [up2_k, if_neg (by decide)]; exact g42) (fun j hj => by rw [up2_i (by decide)]; exact (gd j hj).1) hvl (by rw [up2_k, if_pos rfl]) (by rw [← e60]; exact q) _
          · refine fail 8 G hG ?_ (by decide)
            refine (e5.trans (ic_f (fun z => by rcases z with z | z | z; omega; omega; exact z hvl))).trans (ic_t ?_)
            rw [← e60]; exact q
        | succ r ih =>
          intro i G hi hG g42 gd
          refine bX12_parted_100 hn ⟨⟨by omega, by omega⟩, fun q => by omega, fun _ => ⟨⟨by omega, by omega⟩, fun y ey => ⟨⟨by omega, by omega⟩, ?_⟩⟩⟩
          have ey' : y = a 56 (16 * t + i) := by
            rw [ey, show (16 * (t : Int) + (i : Int)).toNat = 16 * t + i by omega]
            exact hG 56 _ (by decide) (by omega)
          have hU : lvP a (up2 G 89 i y) := hG.up (by omega)
          have bad : ¬ (1 ≤ y ∧ y ≤ 1000000) → P (some (I_ 7)) n (W0 dy) (up2 G 89 i y) := fun z => fail 7 _ hU (e5.trans (ic_t (Or.inr (Or.inr fun w => z (by rw [ey']; exact w i (by omega)))))) (by decide)
          show (up2 G 89 i y 89 i < 1 → P (some (I_ 7)) n (W0 dy) (up2 G 89 i y)) ∧ (1 ≤ up2 G 89 i y 89 i → (up2 G 89 i y 89 i ≤ 1000000 → ∀ y22 : Int, y22 = sumN (fun j => a 56 (16 * t + j)) i + up2 G 89 i y 89 i → V miX12_parted (d + 2 + 1) 100 [(0, .ref 53), (1, I_ (k : Int)), (2, I_ (t : Int)), (3, I_ x3), (4, I_ x4), (5, L_ y22), (7, I_ ((i : Int) + 1))] [] n (W0 dy) (up2 G 89 i y) 0 0 P) ∧ (1000000 < up2 G 89 i y 89 i → P (some (I_ 7)) n (W0 dy) (up2 G 89 i y)))
          rw [up2_k, if_pos rfl]
          refine ⟨fun q => bad (by omega), fun qa => ⟨fun qb y2 ey2 => ?_, fun q => bad (by omega)⟩⟩
          have : y2 = sumN (fun j => a 56 (16 * t + j)) (i + 1) := by rw [ey2, ey']; rfl
          rw [this, show (i : Int) + 1 = ((i + 1 : Nat) : Int) by omega]
          refine ih (i + 1) _ (by omega) hU (by rw [up2_i (by decide)]; exact g42) fun j hj => ?_
          rw [up2_k]
          by_cases c : j = i
          · rw [if_pos c, c, ← ey']; exact ⟨rfl, qa, qb⟩
          · rw [if_neg c]; exact gd j (by omega)
      refine nums N 0 _ (by omega) (l42 _) ?_ fun j hj => by omega
      rw [up2_k, if_pos rfl]; exact hN
    refine wX12_isRod hn ⟨⟨by omega, by omega⟩, fun q => rod (Or.inl q), fun q => ⟨fun q' => ?_, fun q' => rod (Or.inr q')⟩⟩
    have q3 : a 57 k ≠ 2 := q
    have q4 : a 57 k ≠ 3 := q'
    exact bX12_parted_59 hn ⟨by decide, fun z => absurd rfl z, fun _ => fail 5 a l0 (e4.trans (ic_t (by omega))) (by decide)⟩
  refine bX12_parted_17 hn ⟨by decide, fun _ => ⟨⟨by omega, by omega⟩, fun c3 => ⟨by omega, fun q => go (by show ¬ a 55 t < 0; have c3' : 0 ≤ a 55 t := c3; omega) (fun z => z.1 q), fun q => ⟨h3, fun q' => ?_, fun q' => ⟨fun q8 => go (by show ¬ a 55 t < 0; have c3' : 0 ≤ a 55 t := c3; omega) (fun z => ?_), fun q8 => ?_⟩⟩⟩, fun c3 => fail 3 a l0 (e2.trans (ic_t c3)) (by decide)⟩, fun z => absurd z (by decide)⟩
  · have c3' : 0 ≤ a 55 t := c3
    exact fail 4 a l0 ((e2.trans (ic_f (by omega))).trans (ic_t ⟨q, Or.inl q'⟩)) (by decide)
  · have q8' : x3 < a 55 t := q8
    rcases z.2 with z | z <;> omega
  · have c3' : 0 ≤ a 55 t := c3
    exact fail 4 a l0 ((e2.trans (ic_f (by omega))).trans (ic_t ⟨q, Or.inr q8⟩)) (by decide)
end Parted3
