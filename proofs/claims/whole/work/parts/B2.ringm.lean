/-! THE REFERENCE'S RING -/
def RM (g : Hp) (m : Nat) : Prop := (3 ≤ m ∧ m ≤ 8) ∧ ∀ q : Nat, q < m → (-1000 ≤ g 79 q ∧ g 79 q ≤ 1000) ∧ (-1000 ≤ g 80 q ∧ g 80 q ≤ 1000)
section RingM
variable {d n m : Nat} {dy : Nat → Shp} {g a G : Hp} {P : Pst}
theorem rs_turn {i j k : Nat} (hn : 100 ≤ n) (hR : RM g m) (hi : i < m) (hj : j < m) (hk : k < m) (h : P (some (L_ (tn (g 79) (g 80) i j k))) n (W0 dy) g) : Runs miX12_turn d [.ref 53, I_ (i : Int), I_ (j : Int), I_ (k : Int)] n (W0 dy) g P := by
  obtain ⟨hm, hb⟩ := hR
  have b1 := hb i hi
  have b2 := hb j hj
  have b3 := hb k hk
  exact wX12_turn hn ⟨⟨by omega, by omega⟩, ⟨by omega, by omega⟩, ⟨show -2147483648 ≤ g 79 j - g 79 i by omega, show g 79 j - g 79 i ≤ 2147483647 by omega⟩, ⟨by omega, by omega⟩, ⟨show -2147483648 ≤ g 80 k - g 80 i by omega, show g 80 k - g 80 i ≤ 2147483647 by omega⟩, ⟨show -2147483648 ≤ g 80 j - g 80 i by omega, show g 80 j - g 80 i ≤ 2147483647 by omega⟩, ⟨show -2147483648 ≤ g 79 k - g 79 i by omega, show g 79 k - g 79 i ≤ 2147483647 by omega⟩, h⟩
theorem rs_isOn {i j k : Nat} (hn : 100 ≤ n) (hR : RM g m) (hi : i < m) (hj : j < m) (hk : k < m) (h0 : ¬ onS (g 79) (g 80) i j k → P (some (I_ 0)) n (W0 dy) g) (h1 : onS (g 79) (g 80) i j k → P (some (I_ 1)) n (W0 dy) g) : Runs miX12_isOn (d + 1) [.ref 53, I_ (i : Int), I_ (j : Int), I_ (k : Int)] n (W0 dy) g P := by
  have hR' := hR
  obtain ⟨hm, hb⟩ := hR
  have tb := tn_b (x := g 79) (y := g 80) (a := i) (b := j) (c := k) (fun q hq => hb q (by omega))
  unfold onS inB at h0 h1
  refine wX12_isOn hn ⟨⟨by omega, by omega⟩, ⟨by omega, by omega⟩, ⟨by omega, by omega⟩, fun c => h0 fun z => ?_, fun c1 => ⟨fun c => h0 fun z => ?_, fun c2 => ⟨fun c => h0 fun z => ?_, fun c3 => ⟨fun c => h0 fun z => ?_, fun c4 => rs_turn hn hR' hi hj hk (bX12_isOn_115 hn ⟨⟨by omega, by omega⟩, fun c => h0 fun z => c z.2, fun c => h1 ⟨⟨⟨c1, c2⟩, ⟨c3, c4⟩⟩, c⟩⟩)⟩⟩⟩⟩
  · have c : g 79 k < min (g 79 i) (g 79 j) := c
    have := z.1; omega
  · have c : max (g 79 i) (g 79 j) < g 79 k := c
    have := z.1; omega
  · have c : g 80 k < min (g 80 i) (g 80 j) := c
    have := z.1; omega
  · have c : max (g 80 i) (g 80 j) < g 80 k := c
    have := z.1; omega
theorem rs_sign {T : Int} (hn : 100 ≤ n) (hT : T.natAbs ≤ 8000000) (h : P (some (I_ (sgV T))) n (W0 dy) g) : Runs miX12_sign d [L_ T] n (W0 dy) g P := by
  unfold sgV at h
  refine wX12_sign hn ⟨⟨by omega, by omega⟩, fun c => ⟨fun c2 => ?_, fun c2 => ?_⟩, fun c => ?_⟩
  · rw [if_neg (by omega), if_neg (by omega)] at h; exact h
  · rw [if_neg (by omega), if_pos c2] at h; exact h
  · rw [if_pos c] at h; exact h
theorem rs_touches {a b c e : Nat} (hn : 100 ≤ n) (hR : RM g m) (ha : a < m) (hb : b < m) (hc : c < m) (he : e < m) (h0 : ¬ tch2 (g 79) (g 80) a b c e → P (some (I_ 0)) n (W0 dy) g) (h1 : tch2 (g 79) (g 80) a b c e → P (some (I_ 1)) n (W0 dy) g) : Runs miX12_touches (d + 2) [.ref 53, I_ (a : Int), I_ (b : Int), I_ (c : Int), I_ (e : Int)] n (W0 dy) g P := by
  have hbd := hR.2
  have tb : ∀ i j k : Nat, i < m → j < m → k < m → (tn (g 79) (g 80) i j k).natAbs ≤ 8000000 := fun i j k hi hj hk => tn_b (fun q hq => hbd q (by omega))
  have one : ∀ v : Int, (sgV v).natAbs ≤ 1 := fun v => by rcases sgV_or v with z | z | z <;> omega
  have p2 : ∀ v w : Int, i3 (sgV v * sgV w) := fun v w => by
    have := pb (one v) (one w)
    exact ⟨by omega, by omega⟩
  unfold tch2 at h0 h1
  refine wX12_touches hn (rs_isOn hn hR ha hb hc (fun z1 => bX12_touches_7 hn ⟨by decide, fun q => absurd rfl q, fun _ => ?_⟩) (fun z => bX12_touches_7 hn ⟨by decide, fun _ => h1 (Or.inl (Or.inl z)), fun q => absurd q (by decide)⟩))
  refine rs_isOn hn hR ha hb he (fun z2 => bX12_touches_18 hn ⟨by decide, fun q => absurd rfl q, fun _ => ?_⟩) (fun z => bX12_touches_18 hn ⟨by decide, fun _ => h1 (Or.inl (Or.inr (Or.inl z))), fun q => absurd q (by decide)⟩)
  refine rs_isOn hn hR hc he ha (fun z3 => bX12_touches_29 hn ⟨by decide, fun q => absurd rfl q, fun _ => ?_⟩) (fun z => bX12_touches_29 hn ⟨by decide, fun _ => h1 (Or.inl (Or.inr (Or.inr (Or.inl z)))), fun q => absurd q (by decide)⟩)
  refine rs_isOn hn hR hc he hb (fun z4 => bX12_touches_40 hn ⟨by decide, fun _ => ?_, fun q => absurd rfl q⟩) (fun z => bX12_touches_40 hn ⟨by decide, fun q => absurd q (by decide), fun _ => h1 (Or.inl (Or.inr (Or.inr (Or.inr z))))⟩)
  have no : ¬ (tn (g 79) (g 80) a b c * tn (g 79) (g 80) a b e < 0 ∧ tn (g 79) (g 80) c e a * tn (g 79) (g 80) c e b < 0) → P (some (I_ 0)) n (W0 dy) g := fun np => h0 (by
    rintro ((q | q | q | q) | q)
    · exact z1 q
    · exact z2 q
    · exact z3 q
    · exact z4 q
    · exact np q)
  refine rs_turn hn hR ha hb hc (bX12_touches_52 hn (rs_sign hn (tb a b c ha hb hc) (bX12_touches_55 hn (rs_turn hn hR ha hb he (bX12_touches_63 hn (rs_sign hn (tb a b e ha hb he) ?_))))))
  refine bX12_touches_66 hn ⟨p2 _ _, fun q => no fun z => ?_, fun q => ?_⟩
  · have := (sgV_neg _ _).mpr z.1
    omega
  · refine rs_turn hn hR hc he ha (bX12_touches_78 hn (rs_sign hn (tb c e a hc he ha) (bX12_touches_81 hn (rs_turn hn hR hc he hb (bX12_touches_89 hn (rs_sign hn (tb c e b hc he hb) ?_))))))
    refine bX12_touches_92 hn ⟨p2 _ _, fun q2 => no fun z => ?_, fun q2 => h1 (Or.inr ⟨(sgV_neg _ _).mp q, (sgV_neg _ _).mp q2⟩)⟩
    have := (sgV_neg _ _).mpr z.2
    omega
theorem nx_tmod {i : Nat} (hi : i < m) : ((i : Int) + 1).tmod (m : Int) = ((nx_ m i : Nat) : Int) := by
  rw [Int.tmod_eq_emod_of_nonneg (by omega)]
  unfold nx_
  by_cases c : i + 1 < m
  · rw [if_pos c, Int.emod_eq_of_lt (by omega) (by omega)]; rfl
  · rw [if_neg c, show (i : Int) + 1 = (m : Int) by omega, Int.emod_self]; rfl
theorem rs_isRing (hn : 100 ≤ n) (hR : RM g m) (h1 : RG m (g 79) (g 80) → P (some (I_ 1)) n (W0 dy) g) (h0 : ¬ RG m (g 79) (g 80) → P (some (I_ 0)) n (W0 dy) g) : Runs miX12_isRing (d + 3) [.ref 53, I_ (m : Int)] n (W0 dy) g P := by
  have hm := hR.1
  rw [rg_bad2 (by omega)] at h0 h1
  have bad : ∀ i j, i < j → j < m → bad2 m (g 79) (g 80) i j → P (some (I_ 0)) n (W0 dy) g := fun i j a b c => h0 fun z => z i j a b c
  have key : ∀ (f i : Nat), i + f = m → (∀ k j, k < i → k < j → j < m → ¬ bad2 m (g 79) (g 80) k j) → V miX12_isRing (d + 3) 2 [(0, .ref 53), (1, I_ (m : Int)), (2, I_ (i : Int))] [] n (W0 dy) g 0 0 P := by
    intro f
    induction f with
    | zero =>
      intro i hi hp
      exact bX12_isRing_2 hn ⟨⟨by omega, by omega⟩, ⟨by omega, by omega⟩, fun _ => h1 fun k j a b => hp k j (by omega) a b, fun q => by omega⟩
    | succ f ih =>
      intro i hi hp
      have li : i < m := by omega
      refine bX12_isRing_2 hn ⟨⟨by omega, by omega⟩, ⟨by omega, by omega⟩, fun q => by omega, fun _ => ?_⟩
      have inner : ∀ (u j : Nat), j + u = m → i < j → (∀ j', i < j' → j' < j → ¬ bad2 m (g 79) (g 80) i j') → V miX12_isRing (d + 3) 11 [(0, .ref 53), (1, I_ (m : Int)), (2, I_ (i : Int)), (3, I_ (j : Int))] [] n (W0 dy) g 0 0 P := by
        intro u
        induction u with
        | zero =>
          intro j hj hij hq
          refine bX12_isRing_11 hn ⟨⟨by omega, by omega⟩, ⟨by omega, by omega⟩, fun _ => ?_, fun q => by omega⟩
          refine ih (i + 1) (by omega) fun k j' a b c => ?_
          by_cases e : k = i
          · rw [e] at b ⊢; exact hq j' b (by omega)
          · exact hp k j' (by omega) b c
        | succ u ihu =>
          intro j hj hij hq
          have lj : j < m := by omega
          have l1 := nx_lt li
          have l2 := nx_lt lj
          have nxt : ¬ bad2 m (g 79) (g 80) i j → V miX12_isRing (d + 3) 11 [(0, .ref 53), (1, I_ (m : Int)), (2, I_ (i : Int)), (3, I_ ((j : Int) + 1))] [] n (W0 dy) g 0 0 P := fun z => by
            refine ihu (j + 1) (by omega) (by omega) fun j' a b => ?_
            by_cases e : j' = j
            · rw [e]; exact z
            · exact hq j' a (by omega)
          have bd := bad i j hij lj
          have hh := bX12_isRing_11 (d := d + 2) (dy := dy) (g := g) (P := P) (x1 := (m : Int)) (x2 := (i : Int)) (x3 := (j : Int)) hn
          rw [nx_tmod li, nx_tmod lj] at hh
          refine hh ⟨⟨by omega, by omega⟩, ⟨by omega, by omega⟩, fun q => by omega, fun _ => ⟨⟨by omega, by omega⟩, by omega, ⟨by omega, by omega⟩, by omega, ⟨by omega, by omega⟩, fun q1 => ⟨⟨by omega, by omega⟩, ⟨by omega, by omega⟩, fun q2 => ?_, fun q2 => ?_⟩, fun q1 => ?_⟩⟩
          · have e : bad2 m (g 79) (g 80) i j = tch2 (g 79) (g 80) i (nx_ m i) j (nx_ m j) := by
              unfold bad2; rw [if_neg (by omega), if_neg (by omega)]
            rw [e] at nxt bd
            exact rs_touches hn hR li l1 lj l2 (fun z => bX12_isRing_118 hn ⟨by decide, fun _ => nxt z, fun q => absurd rfl q⟩) (fun z => bX12_isRing_118 hn ⟨by decide, fun q => absurd q (by decide), fun _ => bd z⟩)
          · have e : bad2 m (g 79) (g 80) i j = (onS (g 79) (g 80) j (nx_ m j) (nx_ m i) ∨ onS (g 79) (g 80) i (nx_ m i) j) := by
              unfold bad2; rw [if_neg (by omega), if_pos (by omega)]
            rw [e] at nxt bd
            refine rs_isOn hn hR lj l2 l1 (fun z => bX12_isRing_84 hn ⟨by decide, fun q => absurd rfl q, fun _ => ?_⟩) (fun z => bX12_isRing_84 hn ⟨by decide, fun _ => bd (Or.inl z), fun q => absurd q (by decide)⟩)
            exact rs_isOn hn hR li l1 lj (fun z2 => bX12_isRing_95 hn ⟨by decide, fun _ => nxt fun w => w.elim z z2, fun q => absurd rfl q⟩) (fun z2 => bX12_isRing_95 hn ⟨by decide, fun q => absurd q (by decide), fun _ => bd (Or.inr z2)⟩)
          · have e : bad2 m (g 79) (g 80) i j = (onS (g 79) (g 80) i (nx_ m i) (nx_ m j) ∨ onS (g 79) (g 80) j (nx_ m j) i) := by
              unfold bad2; rw [if_pos (by omega)]
            rw [e] at nxt bd
            refine rs_isOn hn hR li l1 l2 (fun z => bX12_isRing_45 hn ⟨by decide, fun q => absurd rfl q, fun _ => ?_⟩) (fun z => bX12_isRing_45 hn ⟨by decide, fun _ => bd (Or.inl z), fun q => absurd q (by decide)⟩)
            exact rs_isOn hn hR lj l2 li (fun z2 => bX12_isRing_56 hn ⟨by decide, fun _ => nxt fun w => w.elim z z2, fun q => absurd rfl q⟩) (fun z2 => bX12_isRing_56 hn ⟨by decide, fun q => absurd q (by decide), fun _ => bd (Or.inr z2)⟩)
      exact inner (m - (i + 1)) (i + 1) (by omega) (by omega) (fun j' a b => by omega)
  exact wX12_isRing hn (key m 0 (by omega) (fun k j a => by omega))
end RingM
