/-! THE REFERENCE'S SIMPLE METHODS, as functions of its state -/
def c2i (x : Int) : Int := (Int32.ofInt x).toInt
theorem c2i_r (x : Int) : i3 (c2i x) := ⟨by unfold c2i; have := Int32.le_toInt (Int32.ofInt x); omega, by unfold c2i; have := Int32.toInt_lt (Int32.ofInt x); omega⟩
theorem I_c2i (x : Int) : I_ (c2i x) = I_ x := by unfold c2i; show Value.int _ = Value.int _; rw [Int32.ofInt_toInt]
theorem c2s_6 (x : Int) : i6 (c2s x) := by have := c2s_r x; unfold i3 at this; unfold i6; omega
theorem c2i_6 (x : Int) : i6 (c2i x) := by have := c2i_r x; unfold i3 at this; unfold i6; omega
set_option maxHeartbeats 8000000 in
set_option maxRecDepth 4000 in
theorem b2X12_cut_0 {d n : Nat} {dy : Nat → Shp} {g : Hp} {P : Pst} {x0 : Int} {x1 : Int} (hn : 100 ≤ n) (h : (i3 x0) ∧ ((x0 ≠ 0) → ((x0 ≠ 1) → P (some (L_ x1)) n (W0 dy) g) ∧ ((x0 = 1) → P (some (L_ (c2i x1))) n (W0 dy) g)) ∧ ((x0 = 0) → P (some (L_ (c2s x1))) n (W0 dy) g)) : V miX12_cut d 0 [(0, I_ x0), (1, L_ x1)] [] n (W0 dy) g 0 0 P := by
  refine v_iload_n 0 0 rfl rfl rfl ?_
  have c1 := h.1
  have h := h.2
  refine v_if_ne 1 rfl (tgt := 11) rfl c1 (fun q2 => ?_) (fun q2 => ?_)
  · have h := h.1 q2
    refine v_iload_n 7 0 rfl rfl rfl ?_
    refine v_iconst 8 rfl ?_
    refine v_icmp_ne 9 rfl (tgt := 22) rfl c1 (by decide) (fun q3 => ?_) (fun q3 => ?_)
    · have h := h.1 q3
      refine v_lload_n 14 1 rfl rfl rfl ?_
      exact v_ret (v := some (L_ x1)) 15 rfl (Nat.zero_le _) (Nat.zero_le _) trivial rfl h
    · have h := h.2 q3
      refine v_lload_n 10 1 rfl rfl rfl ?_
      refine v_l2i 11 rfl ?_
      rw [← I_c2i x1]
      refine v_i2l 12 rfl (c2i_r _) ?_
      refine v_goto 13 rfl (tgt := 23) rfl ?_
      exact v_ret (v := some (L_ (c2i x1))) 15 rfl (Nat.zero_le _) (Nat.zero_le _) trivial rfl h
  · have h := h.2 q2
    refine v_lload_n 2 1 rfl rfl rfl ?_
    refine v_l2i 3 rfl ?_
    refine v_i2s 4 rfl ?_
    refine v_i2l 5 rfl (c2s_r _) ?_
    refine v_goto 6 rfl (tgt := 23) rfl ?_
    exact v_ret (v := some (L_ (c2s x1))) 15 rfl (Nat.zero_le _) (Nat.zero_le _) trivial rfl h
theorem w2X12_cut {d n : Nat} {dy : Nat → Shp} {g : Hp} {P : Pst} {x0 : Int} {x1 : Int} (hn : 100 ≤ n) (h : (i3 x0) ∧ ((x0 ≠ 0) → ((x0 ≠ 1) → P (some (L_ x1)) n (W0 dy) g) ∧ ((x0 = 1) → P (some (L_ (c2i x1))) n (W0 dy) g)) ∧ ((x0 = 0) → P (some (L_ (c2s x1))) n (W0 dy) g)) : Runs miX12_cut d [I_ x0, L_ x1] n (W0 dy) g P := Runs.of rfl rfl deX12_cut (Nat.le_of_ble_eq_true rfl) (b2X12_cut_0 hn h)
/-- whether r is k or above it, as an Int -/
def abvI (on : Nat → Int) (r k : Nat) : Int := if abv on r 60 k = true then 1 else 0
theorem abvI_b {on : Nat → Int} {r k : Nat} : abvI on r k = 0 ∨ abvI on r k = 1 := by unfold abvI; split <;> omega
/-- what the reference's loops need -/
def RF (g : Hp) : Prop := (0 ≤ g 53 5 ∧ g 53 5 ≤ 60) ∧ ∃ dp, DP (g 53 5) (g 60) dp
theorem spX12_topOf {d n : Nat} {dy : Nat → Shp} {g : Hp} {P : Pst} {k : Nat} (hn : 100 ≤ n) (hF : RF g) (hk : (k : Int) < g 53 5) (h : P (some (I_ ((top (g 60) 60 k : Nat) : Int))) n (W0 dy) g) : Runs miX12_topOf d [.ref 53, I_ (k : Int)] n (W0 dy) g P := by
  obtain ⟨⟨hN0, hN⟩, dp, hD⟩ := hF
  refine wX12_topOf hn ?_
  have key : ∀ (f j : Nat), dp j = f → (j : Int) < g 53 5 → P (some (I_ ((top (g 60) 60 j : Nat) : Int))) n (W0 dy) g → V miX12_topOf d 2 [(0, .ref 53), (1, I_ (k : Int)), (2, I_ (j : Int))] [] n (W0 dy) g 0 0 P := by
    intro f
    induction f with
    | zero =>
      intro j hf hj hP
      obtain ⟨q1, q2, q3, q4⟩ := hD j hj
      refine bX12_topOf_2 hn ⟨⟨by omega, by omega⟩, fun c => ?_, fun c => ?_⟩
      · have c : g 60 j < 0 := c
        rw [top_eq hD hN hj, if_pos c] at hP; exact hP
      · have := q4 c; omega
    | succ f ih =>
      intro j hf hj hP
      obtain ⟨q1, q2, q3, q4⟩ := hD j hj
      refine bX12_topOf_2 hn ⟨⟨by omega, by omega⟩, fun c => ?_, fun c => ?_⟩
      · have := q3 c; omega
      · have c : 0 ≤ g 60 j := c
        rw [top_eq hD hN hj, if_neg (by omega)] at hP
        have := ih (g 60 j).toNat (by have := q4 c; omega) (by omega) hP
        rw [← castN c] at this
        exact this
  exact key _ k rfl hk h
theorem hgt_b {N : Int} {on th : Nat → Int} {dp : Nat → Nat} (hD : DP N on dp) (ht : ∀ k : Nat, (k : Int) < N → 0 ≤ on k → 0 ≤ th k ∧ th k ≤ 1000) : ∀ (f k : Nat), (k : Int) < N → 0 ≤ hgt on th f k ∧ hgt on th f k ≤ 1000 * f
  | 0, k, _ => ⟨Int.le_refl _, Int.le_refl _⟩
  | f + 1, k, hk => by
    show 0 ≤ (if on k < 0 then 0 else th k + hgt on th f (on k).toNat) ∧ (if on k < 0 then 0 else th k + hgt on th f (on k).toNat) ≤ _
    by_cases c : on k < 0
    · rw [if_pos c]; omega
    · rw [if_neg c]
      have h1 := hgt_b hD ht f (on k).toNat (by have := (hD k hk).1; omega)
      have h2 := ht k hk (by omega)
      omega
theorem spX12_heightOf {d n : Nat} {dy : Nat → Shp} {g : Hp} {P : Pst} {k : Nat} (hn : 100 ≤ n) (hF : RF g) (hk : (k : Int) < g 53 5) (h : P (some (I_ (hgt (g 60) (g 62) 60 k))) n (W0 dy) g) : Runs miX12_heightOf d [.ref 53, I_ (k : Int)] n (W0 dy) g P := by
  obtain ⟨⟨hN0, hN⟩, dp, hD⟩ := hF
  refine wX12_heightOf hn ?_
  have key : ∀ (f j : Nat) (x : Int), dp j = f → (j : Int) < g 53 5 → P (some (I_ (x + hgt (g 60) (g 62) 60 j))) n (W0 dy) g → V miX12_heightOf d 4 [(0, .ref 53), (1, I_ (k : Int)), (2, I_ x), (3, I_ (j : Int))] [] n (W0 dy) g 0 0 P := by
    intro f
    induction f with
    | zero =>
      intro j x hf hj hP
      obtain ⟨q1, q2, q3, q4⟩ := hD j hj
      refine bX12_heightOf_4 hn ⟨⟨by omega, by omega⟩, fun c => ?_, fun c => ?_⟩
      · have c : g 60 j < 0 := c
        rw [hgt_eq hD hN hj, if_pos c, Int.add_zero] at hP; exact hP
      · have := q4 c; omega
    | succ f ih =>
      intro j x hf hj hP
      obtain ⟨q1, q2, q3, q4⟩ := hD j hj
      refine bX12_heightOf_4 hn ⟨⟨by omega, by omega⟩, fun c => ?_, fun c => ?_⟩
      · have := q3 c; omega
      · have c : 0 ≤ g 60 j := c
        rw [hgt_eq hD hN hj, if_neg (by omega), ← Int.add_assoc] at hP
        have := ih (g 60 j).toNat (x + g 62 j) (by have := q4 c; omega) (by omega) hP
        rw [← castN c] at this
        exact this
  refine key _ k 0 rfl hk ?_
  rw [Int.zero_add]; exact h
theorem spX12_isAbove {d n : Nat} {dy : Nat → Shp} {g : Hp} {P : Pst} {x1 x2 : Int} (hn : 100 ≤ n) (hF : RF g) (h1 : i3 x1) (h1' : 0 ≤ x1) (hk : 0 ≤ x2 ∧ x2 < g 53 5) (h : (abvI (g 60) x1.toNat x2.toNat = 0 → P (some (I_ 0)) n (W0 dy) g) ∧ (abvI (g 60) x1.toNat x2.toNat = 1 → P (some (I_ 1)) n (W0 dy) g)) : Runs miX12_isAbove d [.ref 53, I_ x1, I_ x2] n (W0 dy) g P := by
  obtain ⟨⟨hN0, hN⟩, dp, hD⟩ := hF
  obtain ⟨r, rfl⟩ := exN h1'
  obtain ⟨k, rfl⟩ := exN hk.1
  refine wX12_isAbove hn ?_
  have key : ∀ (f j : Nat), dp j = f → (j : Int) < g 53 5 → ((abvI (g 60) r j = 0 → P (some (I_ 0)) n (W0 dy) g) ∧ (abvI (g 60) r j = 1 → P (some (I_ 1)) n (W0 dy) g)) → V miX12_isAbove d 2 [(0, .ref 53), (1, I_ (r : Int)), (2, I_ (k : Int)), (3, I_ (j : Int))] [] n (W0 dy) g 0 0 P := by
    intro f
    induction f with
    | zero =>
      intro j hf hj hP
      obtain ⟨q1, q2, q3, q4⟩ := hD j hj
      have c : g 60 j < 0 := by
        by_cases c : g 60 j < 0
        · exact c
        · have := q4 (by omega); omega
      have e : abv (g 60) r 60 j = if j = r then true else if g 60 j < 0 then false else abv (g 60) r 60 (g 60 j).toNat := abv_eq hD hN hj
      rw [if_pos c] at e
      refine bX12_isAbove_2 hn ⟨⟨by omega, by omega⟩, fun q => by omega, fun _ => ⟨h1, fun q => ⟨fun q' => absurd q q', fun _ => ?_⟩, fun q => ⟨⟨by omega, by omega⟩, ?_⟩⟩⟩
      · rw [if_pos (by omega)] at e
        unfold abvI at hP
        rw [e] at hP; exact hP.2 rfl
      · rw [if_neg (by omega)] at e
        unfold abvI at hP
        rw [e] at hP
        have hP0 : P (some (I_ 0)) n (W0 dy) g := hP.1 rfl
        show V miX12_isAbove d 2 [(0, .ref 53), (1, I_ (r : Int)), (2, I_ (k : Int)), (3, I_ (g 60 j))] [] n (W0 dy) g 0 0 P
        exact bX12_isAbove_2 hn ⟨⟨by omega, by omega⟩, fun _ => ⟨h1, fun _ => hP0, fun q9 => by omega⟩, fun q9 => by omega⟩
    | succ f ih =>
      intro j hf hj hP
      obtain ⟨q1, q2, q3, q4⟩ := hD j hj
      have c : 0 ≤ g 60 j := by
        by_cases c : g 60 j < 0
        · have := q3 c; omega
        · omega
      have e : abv (g 60) r 60 j = if j = r then true else if g 60 j < 0 then false else abv (g 60) r 60 (g 60 j).toNat := abv_eq hD hN hj
      rw [if_neg (show ¬ g 60 j < 0 by omega)] at e
      refine bX12_isAbove_2 hn ⟨⟨by omega, by omega⟩, fun q => by omega, fun _ => ⟨h1, fun q => ⟨fun q' => absurd q q', fun _ => ?_⟩, fun q => ⟨⟨by omega, by omega⟩, ?_⟩⟩⟩
      · rw [if_pos (by omega)] at e
        unfold abvI at hP
        rw [e] at hP; exact hP.2 rfl
      · rw [if_neg (by omega)] at e
        have e2 : abvI (g 60) r j = abvI (g 60) r (g 60 j).toNat := by unfold abvI; rw [e]
        rw [e2] at hP
        have := ih (g 60 j).toNat (by have := q4 c; omega) (by omega) hP
        rw [← castN c] at this
        exact this
  exact key _ k rfl hk.2 h
def opHang (g : Hp) (x1 x2 x3 x4 : Int) : Int × Hp :=
  if x1 < 0 ∨ g 53 5 ≤ x1 ∨ x2 < 0 ∨ g 53 5 ≤ x2 then (0, up2 g 53 0 2)
  else if (g 57 x2.toNat ≠ 2 ∧ g 57 x2.toNat ≠ 3) ∨ (g 57 x2.toNat = 3 ∧ (g 57 x1.toNat = 2 ∨ g 57 x1.toNat = 3)) then (0, up2 g 53 0 5)
  else if x3 < 0 ∨ 1 < x3 ∨ x4 < 1 ∨ 1000 < x4 ∨ abvI (g 60) x1.toNat x2.toNat = 1 then (0, up2 g 53 0 7)
  else if 0 ≤ g 60 x1.toNat ∨ (x3 = 0 ∧ 0 ≤ g 66 x2.toNat) ∨ (x3 ≠ 0 ∧ 0 ≤ g 67 x2.toNat) then (0, up2 g 53 0 8)
  else (1, up2 (up2 (up2 (up2 g 60 x1.toNat x2) 61 x1.toNat x3) 62 x1.toNat x4) (if x3 = 0 then 66 else 67) x2.toNat x1)
def off (g : Hp) (k : Nat) : Hp := up2 (up2 (up2 (up2 g (if g 61 k = 0 then 66 else 67) (g 60 k).toNat (-1)) 60 k (-1)) 61 k (-1)) 62 k 0
def opTake (g : Hp) (x1 : Int) : Int × Hp :=
  if x1 < 0 ∨ g 53 5 ≤ x1 then (0, up2 g 53 0 2)
  else if g 60 x1.toNat < 0 then (0, up2 g 53 0 8)
  else (1, off g x1.toNat)
def opThread (g : Hp) (x1 x2 : Int) : Int × Hp :=
  if x1 < 0 ∨ g 53 5 ≤ x1 then (0, up2 g 53 0 2)
  else if g 60 x1.toNat < 0 then (0, up2 g 53 0 8)
  else if x2 < 1 ∨ 1000 < x2 then (0, up2 g 53 0 7)
  else (1, up2 g 62 x1.toNat x2)
def rodI (g : Hp) (x1 : Int) : Int := if x1 < 0 ∨ g 53 5 ≤ x1 then 2 else if g 57 x1.toNat = 2 ∨ g 57 x1.toNat = 3 then 0 else 5
def opTied (g : Hp) (x1 x2 x3 : Int) : Int × Hp :=
  if 0 < rodI g x1 then (0, up2 g 53 0 (rodI g x1))
  else if x3 < 2 ∨ 1000000 < x3 ∨ x2 < 1 ∨ x3 ≤ x2 then (0, up2 (up2 g 53 0 0) 53 0 7)
  else (1, up2 (up2 (up2 g 53 0 0) 64 x1.toNat x2) 65 x1.toNat x3)
def sw0 (g : Hp) (k : Nat) : Hp := up2 (up2 g 66 k (g 67 k)) 67 k (g 66 k)
def opSwap (g : Hp) (x1 : Int) : Int × Hp :=
  if 0 < rodI g x1 then (0, up2 g 53 0 (rodI g x1))
  else if g 67 x1.toNat < 0 then (if g 66 x1.toNat < 0 then (1, sw0 (up2 g 53 0 0) x1.toNat) else (1, up2 (sw0 (up2 g 53 0 0) x1.toNat) 61 (g 66 x1.toNat).toNat 1))
  else (if g 66 x1.toNat < 0 then (1, up2 (sw0 (up2 g 53 0 0) x1.toNat) 61 (g 67 x1.toNat).toNat 0) else (1, up2 (up2 (sw0 (up2 g 53 0 0) x1.toNat) 61 (g 67 x1.toNat).toNat 0) 61 (g 66 x1.toNat).toNat 1))
def opPart (g : Hp) (x1 x2 : Int) : Int × Hp :=
  if x1 < 0 ∨ g 53 5 ≤ x1 then (-1, up2 g 53 0 2)
  else if x2 < 0 ∨ 6 < x2 then (-1, up2 g 53 0 7)
  else (if x2 = 0 then g 57 x1.toNat else if x2 = 1 then g 63 x1.toNat else if x2 = 2 then g 60 x1.toNat else if x2 = 3 then g 61 x1.toNat else if x2 = 4 then g 62 x1.toNat else if x2 = 5 then hgt (g 60) (g 62) 60 x1.toNat else ((top (g 60) 60 x1.toNat : Nat) : Int), g)
def opRodAt (g : Hp) (x1 x2 : Int) : Int × Hp :=
  if 0 < rodI g x1 then (-1, up2 g 53 0 (rodI g x1))
  else if x2 < 0 ∨ 5 < x2 then (-1, up2 (up2 g 53 0 0) 53 0 7)
  else (if x2 = 0 then g 59 x1.toNat else if x2 = 1 then g 58 x1.toNat else if x2 = 2 then g 64 x1.toNat else if x2 = 3 then g 65 x1.toNat else if x2 = 4 then g 66 x1.toNat else g 67 x1.toNat, up2 g 53 0 0)
def plcI (g : Hp) (x1 x2 : Int) : Int := if x1 < 0 ∨ 6 ≤ x1 then 1 else if g 55 x1.toNat < 0 then 3 else if x2 < 0 ∨ g 55 x1.toNat ≤ x2 then 4 else 0
def opRead (g : Hp) (x1 x2 : Int) : Int × Hp :=
  if 0 < plcI g x1 x2 then (-1, up2 g 53 0 (plcI g x1 x2)) else (g 56 (16 * x1 + x2).toNat, up2 g 53 0 0)
def cutI (s v : Int) : Int := if s = 0 then c2s v else if s = 1 then c2i v else v
def opWrite (g : Hp) (x1 x2 x3 : Int) : Int × Hp :=
  if 0 < plcI g x1 x2 then (0, up2 g 53 0 (plcI g x1 x2)) else (1, up2 (up2 g 53 0 0) 56 (16 * x1 + x2).toNat (cutI (g 54 x1.toNat) x3))
def clr (g : Hp) (t m : Nat) : Hp := fun i q => if i = 56 ∧ 16 * t ≤ q ∧ q < 16 * t + m then 0 else g i q
def opTray (g : Hp) (x1 x2 x3 : Int) : Int × Hp :=
  if x1 < 0 ∨ 6 ≤ x1 ∨ x2 < 0 ∨ 2 < x2 then (0, up2 g 53 0 1)
  else if x3 < 0 then (0, up2 g 53 0 6)
  else if 16 < x3 then (0, up2 g 53 0 7)
  else (1, clr (up2 (up2 g 54 x1.toNat x2) 55 x1.toNat x3) x1.toNat x3.toNat)
def nwp (g : Hp) (kd w : Int) : Hp := up2 (up2 (up2 (up2 (up2 (up2 (up2 (up2 g 57 (g 53 5).toNat kd) 63 (g 53 5).toNat w) 60 (g 53 5).toNat (-1)) 61 (g 53 5).toNat (-1)) 62 (g 53 5).toNat 0) 66 (g 53 5).toNat (-1)) 67 (g 53 5).toNat (-1)) 53 5 (g 53 5 + 1)
def nwW (g : Hp) (w : Int) : Int × Hp := if w < 1 ∨ 1000000 < w then (-1, up2 g 53 0 7) else if g 53 5 = 60 then (-1, up2 g 53 0 10) else (g 53 5, nwp g 1 w)
def opLoad (g : Hp) (x1 x2 : Int) : Int × Hp :=
  if 0 < plcI g x1 x2 then (-1, up2 g 53 0 (plcI g x1 x2)) else nwW (up2 g 53 0 0) (g 56 (16 * x1 + x2).toNat)
def opRod (g : Hp) (x1 x2 x3 : Int) : Int × Hp :=
  if x1 < 2 ∨ 1000 < x1 ∨ x2 < 0 ∨ 1000 < x2 then (-1, up2 g 53 0 7)
  else if g 53 5 = 60 then (-1, up2 g 53 0 10)
  else (g 53 5, up2 (up2 (up2 (up2 (nwp g (if x3 = 0 then 2 else 3) (x1 * x2)) 59 (g 53 5).toNat x1) 58 (g 53 5).toNat x2) 64 (g 53 5).toNat 1) 65 (g 53 5).toNat 2)
theorem rs_hang {d n : Nat} {dy : Nat → Shp} {g : Hp} {P : Pst} {x1 x2 x3 x4 : Int} (hn : 100 ≤ n) (hF : RF g) (h1 : i3 x1) (h2 : i3 x2) (h3 : i3 x3) (h4 : i3 x4) (h : ∀ v g', opHang (up2 (up2 g 53 1 0) 53 0 0) x1 x2 x3 x4 = (v, g') → P (some (I_ v)) n (W0 dy) g') : Runs miX12_hang (d + 1) [.ref 53, I_ x1, I_ x2, I_ x3, I_ x4] n (W0 dy) g P := by
  have hF1 : RF (up2 (up2 g 53 1 0) 53 0 0) := hF
  refine wX12_hang hn ?_
  generalize (up2 (up2 g 53 1 0) 53 0 0) = g1 at h hF1 ⊢
  clear hF
  have hN := hF1.1
  have hb := @abvI_b (g1 60) x1.toNat x2.toNat
  refine wX12_isPart hn ?_
  refine ⟨by first | omega | assumption, ?_⟩
  refine ⟨?_, ?_⟩
  · intro q1
    refine bX12_hang_15 hn ?_
    refine ⟨by first | omega | assumption, ?_⟩
    refine ⟨?_, ?_⟩
    · intro q2
      refine wX12_no hn ?_
      refine ⟨by first | omega | assumption, ?_⟩
      refine bX12_hang_31 hn ?_
      refine ⟨by first | omega | assumption, ?_⟩
      first | omega | (refine h _ _ ?_; unfold opHang; (repeat' split) <;> first | rfl | (exfalso; omega))
    · intro q3; omega
  · intro q4
    refine ⟨?_, ?_⟩
    · intro q5
      refine bX12_hang_15 hn ?_
      refine ⟨by first | omega | assumption, ?_⟩
      refine ⟨?_, ?_⟩
      · intro q6
        refine wX12_no hn ?_
        refine ⟨by first | omega | assumption, ?_⟩
        refine bX12_hang_31 hn ?_
        refine ⟨by first | omega | assumption, ?_⟩
        first | omega | (refine h _ _ ?_; unfold opHang; (repeat' split) <;> first | rfl | (exfalso; omega))
      · intro q7; omega
    · intro q8
      refine bX12_hang_15 hn ?_
      refine ⟨by first | omega | assumption, ?_⟩
      refine ⟨?_, ?_⟩
      · intro q9; omega
      · intro q10
        refine wX12_isPart hn ?_
        refine ⟨by first | omega | assumption, ?_⟩
        refine ⟨?_, ?_⟩
        · intro q11
          refine bX12_hang_23 hn ?_
          refine ⟨by first | omega | assumption, ?_⟩
          refine ⟨?_, ?_⟩
          · intro q12; omega
          · intro q13
            refine wX12_no hn ?_
            refine ⟨by first | omega | assumption, ?_⟩
            refine bX12_hang_31 hn ?_
            refine ⟨by first | omega | assumption, ?_⟩
            first | omega | (refine h _ _ ?_; unfold opHang; (repeat' split) <;> first | rfl | (exfalso; omega))
        · intro q14
          refine ⟨?_, ?_⟩
          · intro q15
            refine bX12_hang_23 hn ?_
            refine ⟨by first | omega | assumption, ?_⟩
            refine ⟨?_, ?_⟩
            · intro q16; omega
            · intro q17
              refine wX12_no hn ?_
              refine ⟨by first | omega | assumption, ?_⟩
              refine bX12_hang_31 hn ?_
              refine ⟨by first | omega | assumption, ?_⟩
              first | omega | (refine h _ _ ?_; unfold opHang; (repeat' split) <;> first | rfl | (exfalso; omega))
          · intro q18
            refine bX12_hang_23 hn ?_
            refine ⟨by first | omega | assumption, ?_⟩
            refine ⟨?_, ?_⟩
            · intro q19
              refine wX12_isRod hn ?_
              refine ⟨by first | omega | assumption, ?_⟩
              refine ⟨?_, ?_⟩
              · intro q20
                refine bX12_hang_37 hn ?_
                refine ⟨by first | omega | assumption, ?_⟩
                refine ⟨?_, ?_⟩
                · intro q21; omega
                · intro q22
                  refine ⟨by first | omega | assumption, ?_⟩
                  refine ⟨?_, ?_⟩
                  · intro q23
                    refine ⟨by first | omega | assumption, ?_⟩
                    refine ⟨?_, ?_⟩
                    · intro q24
                      refine wX12_no hn ?_
                      refine ⟨by first | omega | assumption, ?_⟩
                      refine bX12_hang_102 hn ?_
                      refine ⟨by first | omega | assumption, ?_⟩
                      first | omega | (refine h _ _ ?_; unfold opHang; (repeat' split) <;> first | rfl | (exfalso; omega))
                    · intro q25
                      refine ⟨?_, ?_⟩
                      · intro q26
                        refine wX12_no hn ?_
                        refine ⟨by first | omega | assumption, ?_⟩
                        refine bX12_hang_102 hn ?_
                        refine ⟨by first | omega | assumption, ?_⟩
                        first | omega | (refine h _ _ ?_; unfold opHang; (repeat' split) <;> first | rfl | (exfalso; omega))
                      · intro q27
                        refine ⟨by first | omega | assumption, ?_⟩
                        refine ⟨?_, ?_⟩
                        · intro q28
                          refine wX12_no hn ?_
                          refine ⟨by first | omega | assumption, ?_⟩
                          refine bX12_hang_102 hn ?_
                          refine ⟨by first | omega | assumption, ?_⟩
                          first | omega | (refine h _ _ ?_; unfold opHang; (repeat' split) <;> first | rfl | (exfalso; omega))
                        · intro q29
                          refine ⟨?_, ?_⟩
                          · intro q30
                            refine wX12_no hn ?_
                            refine ⟨by first | omega | assumption, ?_⟩
                            refine bX12_hang_102 hn ?_
                            refine ⟨by first | omega | assumption, ?_⟩
                            first | omega | (refine h _ _ ?_; unfold opHang; (repeat' split) <;> first | rfl | (exfalso; omega))
                          · intro q31
                            refine spX12_isAbove hn hF1 (by omega) (by omega) (by omega) ⟨fun _ => ?_, fun _ => ?_⟩
                            · refine bX12_hang_93 hn ?_
                              refine ⟨by first | omega | assumption, ?_⟩
                              refine ⟨?_, ?_⟩
                              · intro q32
                                refine ⟨by first | omega | assumption, ?_⟩
                                refine ⟨?_, ?_⟩
                                · intro q33
                                  refine wX12_no hn ?_
                                  refine ⟨by first | omega | assumption, ?_⟩
                                  refine bX12_hang_140 hn ?_
                                  refine ⟨by first | omega | assumption, ?_⟩
                                  first | omega | (refine h _ _ ?_; unfold opHang; (repeat' split) <;> first | rfl | (exfalso; omega))
                                · intro q34
                                  refine ⟨by first | omega | assumption, ?_⟩
                                  refine ⟨?_, ?_⟩
                                  · intro q35
                                    refine ⟨by first | omega | assumption, ?_⟩
                                    refine ⟨?_, ?_⟩
                                    · intro q36
                                      refine ⟨by first | omega | assumption, ?_⟩
                                      refine ⟨?_, ?_⟩
                                      · intro q37
                                        first | omega | (refine h _ _ ?_; unfold opHang; (repeat' split) <;> first | rfl | (exfalso; omega))
                                      · intro q38
                                        first | omega | (refine h _ _ ?_; unfold opHang; (repeat' split) <;> first | rfl | (exfalso; omega))
                                    · intro q39
                                      refine wX12_no hn ?_
                                      refine ⟨by first | omega | assumption, ?_⟩
                                      refine bX12_hang_140 hn ?_
                                      refine ⟨by first | omega | assumption, ?_⟩
                                      first | omega | (refine h _ _ ?_; unfold opHang; (repeat' split) <;> first | rfl | (exfalso; omega))
                                  · intro q40
                                    refine ⟨by first | omega | assumption, ?_⟩
                                    refine ⟨?_, ?_⟩
                                    · intro q41
                                      refine ⟨by first | omega | assumption, ?_⟩
                                      refine ⟨?_, ?_⟩
                                      · intro q42
                                        first | omega | (refine h _ _ ?_; unfold opHang; (repeat' split) <;> first | rfl | (exfalso; omega))
                                      · intro q43
                                        first | omega | (refine h _ _ ?_; unfold opHang; (repeat' split) <;> first | rfl | (exfalso; omega))
                                    · intro q44
                                      refine wX12_no hn ?_
                                      refine ⟨by first | omega | assumption, ?_⟩
                                      refine bX12_hang_140 hn ?_
                                      refine ⟨by first | omega | assumption, ?_⟩
                                      first | omega | (refine h _ _ ?_; unfold opHang; (repeat' split) <;> first | rfl | (exfalso; omega))
                              · intro q45; omega
                            · refine bX12_hang_93 hn ?_
                              refine ⟨by first | omega | assumption, ?_⟩
                              refine ⟨?_, ?_⟩
                              · intro q46; omega
                              · intro q47
                                refine wX12_no hn ?_
                                refine ⟨by first | omega | assumption, ?_⟩
                                refine bX12_hang_102 hn ?_
                                refine ⟨by first | omega | assumption, ?_⟩
                                first | omega | (refine h _ _ ?_; unfold opHang; (repeat' split) <;> first | rfl | (exfalso; omega))
                  · intro q48
                    refine wX12_isRod hn ?_
                    refine ⟨by first | omega | assumption, ?_⟩
                    refine ⟨?_, ?_⟩
                    · intro q49
                      refine bX12_hang_55 hn ?_
                      refine ⟨by first | omega | assumption, ?_⟩
                      refine ⟨?_, ?_⟩
                      · intro q50; omega
                      · intro q51
                        refine wX12_no hn ?_
                        refine ⟨by first | omega | assumption, ?_⟩
                        refine bX12_hang_63 hn ?_
                        refine ⟨by first | omega | assumption, ?_⟩
                        first | omega | (refine h _ _ ?_; unfold opHang; (repeat' split) <;> first | rfl | (exfalso; omega))
                    · intro q52
                      refine ⟨?_, ?_⟩
                      · intro q53
                        refine bX12_hang_55 hn ?_
                        refine ⟨by first | omega | assumption, ?_⟩
                        refine ⟨?_, ?_⟩
                        · intro q54
                          refine ⟨by first | omega | assumption, ?_⟩
                          refine ⟨?_, ?_⟩
                          · intro q55
                            refine wX12_no hn ?_
                            refine ⟨by first | omega | assumption, ?_⟩
                            refine bX12_hang_102 hn ?_
                            refine ⟨by first | omega | assumption, ?_⟩
                            first | omega | (refine h _ _ ?_; unfold opHang; (repeat' split) <;> first | rfl | (exfalso; omega))
                          · intro q56
                            refine ⟨?_, ?_⟩
                            · intro q57
                              refine wX12_no hn ?_
                              refine ⟨by first | omega | assumption, ?_⟩
                              refine bX12_hang_102 hn ?_
                              refine ⟨by first | omega | assumption, ?_⟩
                              first | omega | (refine h _ _ ?_; unfold opHang; (repeat' split) <;> first | rfl | (exfalso; omega))
                            · intro q58
                              refine ⟨by first | omega | assumption, ?_⟩
                              refine ⟨?_, ?_⟩
                              · intro q59
                                refine wX12_no hn ?_
                                refine ⟨by first | omega | assumption, ?_⟩
                                refine bX12_hang_102 hn ?_
                                refine ⟨by first | omega | assumption, ?_⟩
                                first | omega | (refine h _ _ ?_; unfold opHang; (repeat' split) <;> first | rfl | (exfalso; omega))
                              · intro q60
                                refine ⟨?_, ?_⟩
                                · intro q61
                                  refine wX12_no hn ?_
                                  refine ⟨by first | omega | assumption, ?_⟩
                                  refine bX12_hang_102 hn ?_
                                  refine ⟨by first | omega | assumption, ?_⟩
                                  first | omega | (refine h _ _ ?_; unfold opHang; (repeat' split) <;> first | rfl | (exfalso; omega))
                                · intro q62
                                  refine spX12_isAbove hn hF1 (by omega) (by omega) (by omega) ⟨fun _ => ?_, fun _ => ?_⟩
                                  · refine bX12_hang_93 hn ?_
                                    refine ⟨by first | omega | assumption, ?_⟩
                                    refine ⟨?_, ?_⟩
                                    · intro q63
                                      refine ⟨by first | omega | assumption, ?_⟩
                                      refine ⟨?_, ?_⟩
                                      · intro q64
                                        refine wX12_no hn ?_
                                        refine ⟨by first | omega | assumption, ?_⟩
                                        refine bX12_hang_140 hn ?_
                                        refine ⟨by first | omega | assumption, ?_⟩
                                        first | omega | (refine h _ _ ?_; unfold opHang; (repeat' split) <;> first | rfl | (exfalso; omega))
                                      · intro q65
                                        refine ⟨by first | omega | assumption, ?_⟩
                                        refine ⟨?_, ?_⟩
                                        · intro q66
                                          refine ⟨by first | omega | assumption, ?_⟩
                                          refine ⟨?_, ?_⟩
                                          · intro q67
                                            refine ⟨by first | omega | assumption, ?_⟩
                                            refine ⟨?_, ?_⟩
                                            · intro q68
                                              first | omega | (refine h _ _ ?_; unfold opHang; (repeat' split) <;> first | rfl | (exfalso; omega))
                                            · intro q69
                                              first | omega | (refine h _ _ ?_; unfold opHang; (repeat' split) <;> first | rfl | (exfalso; omega))
                                          · intro q70
                                            refine wX12_no hn ?_
                                            refine ⟨by first | omega | assumption, ?_⟩
                                            refine bX12_hang_140 hn ?_
                                            refine ⟨by first | omega | assumption, ?_⟩
                                            first | omega | (refine h _ _ ?_; unfold opHang; (repeat' split) <;> first | rfl | (exfalso; omega))
                                        · intro q71
                                          refine ⟨by first | omega | assumption, ?_⟩
                                          refine ⟨?_, ?_⟩
                                          · intro q72
                                            refine ⟨by first | omega | assumption, ?_⟩
                                            refine ⟨?_, ?_⟩
                                            · intro q73
                                              first | omega | (refine h _ _ ?_; unfold opHang; (repeat' split) <;> first | rfl | (exfalso; omega))
                                            · intro q74
                                              first | omega | (refine h _ _ ?_; unfold opHang; (repeat' split) <;> first | rfl | (exfalso; omega))
                                          · intro q75
                                            refine wX12_no hn ?_
                                            refine ⟨by first | omega | assumption, ?_⟩
                                            refine bX12_hang_140 hn ?_
                                            refine ⟨by first | omega | assumption, ?_⟩
                                            first | omega | (refine h _ _ ?_; unfold opHang; (repeat' split) <;> first | rfl | (exfalso; omega))
                                    · intro q76; omega
                                  · refine bX12_hang_93 hn ?_
                                    refine ⟨by first | omega | assumption, ?_⟩
                                    refine ⟨?_, ?_⟩
                                    · intro q77; omega
                                    · intro q78
                                      refine wX12_no hn ?_
                                      refine ⟨by first | omega | assumption, ?_⟩
                                      refine bX12_hang_102 hn ?_
                                      refine ⟨by first | omega | assumption, ?_⟩
                                      first | omega | (refine h _ _ ?_; unfold opHang; (repeat' split) <;> first | rfl | (exfalso; omega))
                        · intro q79; omega
                      · intro q80
                        refine bX12_hang_55 hn ?_
                        refine ⟨by first | omega | assumption, ?_⟩
                        refine ⟨?_, ?_⟩
                        · intro q81; omega
                        · intro q82
                          refine wX12_no hn ?_
                          refine ⟨by first | omega | assumption, ?_⟩
                          refine bX12_hang_63 hn ?_
                          refine ⟨by first | omega | assumption, ?_⟩
                          first | omega | (refine h _ _ ?_; unfold opHang; (repeat' split) <;> first | rfl | (exfalso; omega))
              · intro q83
                refine ⟨?_, ?_⟩
                · intro q84
                  refine bX12_hang_37 hn ?_
                  refine ⟨by first | omega | assumption, ?_⟩
                  refine ⟨?_, ?_⟩
                  · intro q85
                    refine wX12_no hn ?_
                    refine ⟨by first | omega | assumption, ?_⟩
                    refine bX12_hang_63 hn ?_
                    refine ⟨by first | omega | assumption, ?_⟩
                    first | omega | (refine h _ _ ?_; unfold opHang; (repeat' split) <;> first | rfl | (exfalso; omega))
                  · intro q86; omega
                · intro q87
                  refine bX12_hang_37 hn ?_
                  refine ⟨by first | omega | assumption, ?_⟩
                  refine ⟨?_, ?_⟩
                  · intro q88; omega
                  · intro q89
                    refine ⟨by first | omega | assumption, ?_⟩
                    refine ⟨?_, ?_⟩
                    · intro q90
                      refine ⟨by first | omega | assumption, ?_⟩
                      refine ⟨?_, ?_⟩
                      · intro q91
                        refine wX12_no hn ?_
                        refine ⟨by first | omega | assumption, ?_⟩
                        refine bX12_hang_102 hn ?_
                        refine ⟨by first | omega | assumption, ?_⟩
                        first | omega | (refine h _ _ ?_; unfold opHang; (repeat' split) <;> first | rfl | (exfalso; omega))
                      · intro q92
                        refine ⟨?_, ?_⟩
                        · intro q93
                          refine wX12_no hn ?_
                          refine ⟨by first | omega | assumption, ?_⟩
                          refine bX12_hang_102 hn ?_
                          refine ⟨by first | omega | assumption, ?_⟩
                          first | omega | (refine h _ _ ?_; unfold opHang; (repeat' split) <;> first | rfl | (exfalso; omega))
                        · intro q94
                          refine ⟨by first | omega | assumption, ?_⟩
                          refine ⟨?_, ?_⟩
                          · intro q95
                            refine wX12_no hn ?_
                            refine ⟨by first | omega | assumption, ?_⟩
                            refine bX12_hang_102 hn ?_
                            refine ⟨by first | omega | assumption, ?_⟩
                            first | omega | (refine h _ _ ?_; unfold opHang; (repeat' split) <;> first | rfl | (exfalso; omega))
                          · intro q96
                            refine ⟨?_, ?_⟩
                            · intro q97
                              refine wX12_no hn ?_
                              refine ⟨by first | omega | assumption, ?_⟩
                              refine bX12_hang_102 hn ?_
                              refine ⟨by first | omega | assumption, ?_⟩
                              first | omega | (refine h _ _ ?_; unfold opHang; (repeat' split) <;> first | rfl | (exfalso; omega))
                            · intro q98
                              refine spX12_isAbove hn hF1 (by omega) (by omega) (by omega) ⟨fun _ => ?_, fun _ => ?_⟩
                              · refine bX12_hang_93 hn ?_
                                refine ⟨by first | omega | assumption, ?_⟩
                                refine ⟨?_, ?_⟩
                                · intro q99
                                  refine ⟨by first | omega | assumption, ?_⟩
                                  refine ⟨?_, ?_⟩
                                  · intro q100
                                    refine wX12_no hn ?_
                                    refine ⟨by first | omega | assumption, ?_⟩
                                    refine bX12_hang_140 hn ?_
                                    refine ⟨by first | omega | assumption, ?_⟩
                                    first | omega | (refine h _ _ ?_; unfold opHang; (repeat' split) <;> first | rfl | (exfalso; omega))
                                  · intro q101
                                    refine ⟨by first | omega | assumption, ?_⟩
                                    refine ⟨?_, ?_⟩
                                    · intro q102
                                      refine ⟨by first | omega | assumption, ?_⟩
                                      refine ⟨?_, ?_⟩
                                      · intro q103
                                        refine ⟨by first | omega | assumption, ?_⟩
                                        refine ⟨?_, ?_⟩
                                        · intro q104
                                          first | omega | (refine h _ _ ?_; unfold opHang; (repeat' split) <;> first | rfl | (exfalso; omega))
                                        · intro q105
                                          first | omega | (refine h _ _ ?_; unfold opHang; (repeat' split) <;> first | rfl | (exfalso; omega))
                                      · intro q106
                                        refine wX12_no hn ?_
                                        refine ⟨by first | omega | assumption, ?_⟩
                                        refine bX12_hang_140 hn ?_
                                        refine ⟨by first | omega | assumption, ?_⟩
                                        first | omega | (refine h _ _ ?_; unfold opHang; (repeat' split) <;> first | rfl | (exfalso; omega))
                                    · intro q107
                                      refine ⟨by first | omega | assumption, ?_⟩
                                      refine ⟨?_, ?_⟩
                                      · intro q108
                                        refine ⟨by first | omega | assumption, ?_⟩
                                        refine ⟨?_, ?_⟩
                                        · intro q109
                                          first | omega | (refine h _ _ ?_; unfold opHang; (repeat' split) <;> first | rfl | (exfalso; omega))
                                        · intro q110
                                          first | omega | (refine h _ _ ?_; unfold opHang; (repeat' split) <;> first | rfl | (exfalso; omega))
                                      · intro q111
                                        refine wX12_no hn ?_
                                        refine ⟨by first | omega | assumption, ?_⟩
                                        refine bX12_hang_140 hn ?_
                                        refine ⟨by first | omega | assumption, ?_⟩
                                        first | omega | (refine h _ _ ?_; unfold opHang; (repeat' split) <;> first | rfl | (exfalso; omega))
                                · intro q112; omega
                              · refine bX12_hang_93 hn ?_
                                refine ⟨by first | omega | assumption, ?_⟩
                                refine ⟨?_, ?_⟩
                                · intro q113; omega
                                · intro q114
                                  refine wX12_no hn ?_
                                  refine ⟨by first | omega | assumption, ?_⟩
                                  refine bX12_hang_102 hn ?_
                                  refine ⟨by first | omega | assumption, ?_⟩
                                  first | omega | (refine h _ _ ?_; unfold opHang; (repeat' split) <;> first | rfl | (exfalso; omega))
                    · intro q115
                      refine wX12_isRod hn ?_
                      refine ⟨by first | omega | assumption, ?_⟩
                      refine ⟨?_, ?_⟩
                      · intro q116
                        refine bX12_hang_55 hn ?_
                        refine ⟨by first | omega | assumption, ?_⟩
                        refine ⟨?_, ?_⟩
                        · intro q117; omega
                        · intro q118
                          refine wX12_no hn ?_
                          refine ⟨by first | omega | assumption, ?_⟩
                          refine bX12_hang_63 hn ?_
                          refine ⟨by first | omega | assumption, ?_⟩
                          first | omega | (refine h _ _ ?_; unfold opHang; (repeat' split) <;> first | rfl | (exfalso; omega))
                      · intro q119
                        refine ⟨?_, ?_⟩
                        · intro q120
                          refine bX12_hang_55 hn ?_
                          refine ⟨by first | omega | assumption, ?_⟩
                          refine ⟨?_, ?_⟩
                          · intro q121
                            refine ⟨by first | omega | assumption, ?_⟩
                            refine ⟨?_, ?_⟩
                            · intro q122
                              refine wX12_no hn ?_
                              refine ⟨by first | omega | assumption, ?_⟩
                              refine bX12_hang_102 hn ?_
                              refine ⟨by first | omega | assumption, ?_⟩
                              first | omega | (refine h _ _ ?_; unfold opHang; (repeat' split) <;> first | rfl | (exfalso; omega))
                            · intro q123
                              refine ⟨?_, ?_⟩
                              · intro q124
                                refine wX12_no hn ?_
                                refine ⟨by first | omega | assumption, ?_⟩
                                refine bX12_hang_102 hn ?_
                                refine ⟨by first | omega | assumption, ?_⟩
                                first | omega | (refine h _ _ ?_; unfold opHang; (repeat' split) <;> first | rfl | (exfalso; omega))
                              · intro q125
                                refine ⟨by first | omega | assumption, ?_⟩
                                refine ⟨?_, ?_⟩
                                · intro q126
                                  refine wX12_no hn ?_
                                  refine ⟨by first | omega | assumption, ?_⟩
                                  refine bX12_hang_102 hn ?_
                                  refine ⟨by first | omega | assumption, ?_⟩
                                  first | omega | (refine h _ _ ?_; unfold opHang; (repeat' split) <;> first | rfl | (exfalso; omega))
                                · intro q127
                                  refine ⟨?_, ?_⟩
                                  · intro q128
                                    refine wX12_no hn ?_
                                    refine ⟨by first | omega | assumption, ?_⟩
                                    refine bX12_hang_102 hn ?_
                                    refine ⟨by first | omega | assumption, ?_⟩
                                    first | omega | (refine h _ _ ?_; unfold opHang; (repeat' split) <;> first | rfl | (exfalso; omega))
                                  · intro q129
                                    refine spX12_isAbove hn hF1 (by omega) (by omega) (by omega) ⟨fun _ => ?_, fun _ => ?_⟩
                                    · refine bX12_hang_93 hn ?_
                                      refine ⟨by first | omega | assumption, ?_⟩
                                      refine ⟨?_, ?_⟩
                                      · intro q130
                                        refine ⟨by first | omega | assumption, ?_⟩
                                        refine ⟨?_, ?_⟩
                                        · intro q131
                                          refine wX12_no hn ?_
                                          refine ⟨by first | omega | assumption, ?_⟩
                                          refine bX12_hang_140 hn ?_
                                          refine ⟨by first | omega | assumption, ?_⟩
                                          first | omega | (refine h _ _ ?_; unfold opHang; (repeat' split) <;> first | rfl | (exfalso; omega))
                                        · intro q132
                                          refine ⟨by first | omega | assumption, ?_⟩
                                          refine ⟨?_, ?_⟩
                                          · intro q133
                                            refine ⟨by first | omega | assumption, ?_⟩
                                            refine ⟨?_, ?_⟩
                                            · intro q134
                                              refine ⟨by first | omega | assumption, ?_⟩
                                              refine ⟨?_, ?_⟩
                                              · intro q135
                                                first | omega | (refine h _ _ ?_; unfold opHang; (repeat' split) <;> first | rfl | (exfalso; omega))
                                              · intro q136
                                                first | omega | (refine h _ _ ?_; unfold opHang; (repeat' split) <;> first | rfl | (exfalso; omega))
                                            · intro q137
                                              refine wX12_no hn ?_
                                              refine ⟨by first | omega | assumption, ?_⟩
                                              refine bX12_hang_140 hn ?_
                                              refine ⟨by first | omega | assumption, ?_⟩
                                              first | omega | (refine h _ _ ?_; unfold opHang; (repeat' split) <;> first | rfl | (exfalso; omega))
                                          · intro q138
                                            refine ⟨by first | omega | assumption, ?_⟩
                                            refine ⟨?_, ?_⟩
                                            · intro q139
                                              refine ⟨by first | omega | assumption, ?_⟩
                                              refine ⟨?_, ?_⟩
                                              · intro q140
                                                first | omega | (refine h _ _ ?_; unfold opHang; (repeat' split) <;> first | rfl | (exfalso; omega))
                                              · intro q141
                                                first | omega | (refine h _ _ ?_; unfold opHang; (repeat' split) <;> first | rfl | (exfalso; omega))
                                            · intro q142
                                              refine wX12_no hn ?_
                                              refine ⟨by first | omega | assumption, ?_⟩
                                              refine bX12_hang_140 hn ?_
                                              refine ⟨by first | omega | assumption, ?_⟩
                                              first | omega | (refine h _ _ ?_; unfold opHang; (repeat' split) <;> first | rfl | (exfalso; omega))
                                      · intro q143; omega
                                    · refine bX12_hang_93 hn ?_
                                      refine ⟨by first | omega | assumption, ?_⟩
                                      refine ⟨?_, ?_⟩
                                      · intro q144; omega
                                      · intro q145
                                        refine wX12_no hn ?_
                                        refine ⟨by first | omega | assumption, ?_⟩
                                        refine bX12_hang_102 hn ?_
                                        refine ⟨by first | omega | assumption, ?_⟩
                                        first | omega | (refine h _ _ ?_; unfold opHang; (repeat' split) <;> first | rfl | (exfalso; omega))
                          · intro q146; omega
                        · intro q147
                          refine bX12_hang_55 hn ?_
                          refine ⟨by first | omega | assumption, ?_⟩
                          refine ⟨?_, ?_⟩
                          · intro q148; omega
                          · intro q149
                            refine wX12_no hn ?_
                            refine ⟨by first | omega | assumption, ?_⟩
                            refine bX12_hang_63 hn ?_
                            refine ⟨by first | omega | assumption, ?_⟩
                            first | omega | (refine h _ _ ?_; unfold opHang; (repeat' split) <;> first | rfl | (exfalso; omega))
            · intro q150; omega
theorem rs_thread {d n : Nat} {dy : Nat → Shp} {g : Hp} {P : Pst} {x1 x2 : Int} (hn : 100 ≤ n) (hF : RF g) (h1 : i3 x1) (h2 : i3 x2) (h : ∀ v g', opThread (up2 (up2 g 53 1 0) 53 0 0) x1 x2 = (v, g') → P (some (I_ v)) n (W0 dy) g') : Runs miX12_thread (d + 1) [.ref 53, I_ x1, I_ x2] n (W0 dy) g P := by
  have hF1 : RF (up2 (up2 g 53 1 0) 53 0 0) := hF
  refine wX12_thread hn ?_
  generalize (up2 (up2 g 53 1 0) 53 0 0) = g1 at h hF1 ⊢
  clear hF
  have hN := hF1.1
  refine wX12_isPart hn ?_
  refine ⟨by first | omega | assumption, ?_⟩
  refine ⟨?_, ?_⟩
  · intro q1
    refine bX12_thread_15 hn ?_
    refine ⟨by first | omega | assumption, ?_⟩
    refine ⟨?_, ?_⟩
    · intro q2; omega
    · intro q3
      refine wX12_no hn ?_
      refine ⟨by first | omega | assumption, ?_⟩
      refine bX12_thread_23 hn ?_
      refine ⟨by first | omega | assumption, ?_⟩
      first | omega | (refine h _ _ ?_; unfold opThread; (repeat' split) <;> first | rfl | (exfalso; omega))
  · intro q4
    refine ⟨?_, ?_⟩
    · intro q5
      refine bX12_thread_15 hn ?_
      refine ⟨by first | omega | assumption, ?_⟩
      refine ⟨?_, ?_⟩
      · intro q6; omega
      · intro q7
        refine wX12_no hn ?_
        refine ⟨by first | omega | assumption, ?_⟩
        refine bX12_thread_23 hn ?_
        refine ⟨by first | omega | assumption, ?_⟩
        first | omega | (refine h _ _ ?_; unfold opThread; (repeat' split) <;> first | rfl | (exfalso; omega))
    · intro q8
      refine bX12_thread_15 hn ?_
      refine ⟨by first | omega | assumption, ?_⟩
      refine ⟨?_, ?_⟩
      · intro q9
        refine ⟨by first | omega | assumption, ?_⟩
        refine ⟨?_, ?_⟩
        · intro q10
          refine ⟨by first | omega | assumption, ?_⟩
          refine ⟨?_, ?_⟩
          · intro q11
            refine wX12_no hn ?_
            refine ⟨by first | omega | assumption, ?_⟩
            refine bX12_thread_58 hn ?_
            refine ⟨by first | omega | assumption, ?_⟩
            first | omega | (refine h _ _ ?_; unfold opThread; (repeat' split) <;> first | rfl | (exfalso; omega))
          · intro q12
            refine ⟨?_, ?_⟩
            · intro q13
              first | omega | (refine h _ _ ?_; unfold opThread; (repeat' split) <;> first | rfl | (exfalso; omega))
            · intro q14
              refine wX12_no hn ?_
              refine ⟨by first | omega | assumption, ?_⟩
              refine bX12_thread_58 hn ?_
              refine ⟨by first | omega | assumption, ?_⟩
              first | omega | (refine h _ _ ?_; unfold opThread; (repeat' split) <;> first | rfl | (exfalso; omega))
        · intro q15
          refine wX12_no hn ?_
          refine ⟨by first | omega | assumption, ?_⟩
          refine bX12_thread_39 hn ?_
          refine ⟨by first | omega | assumption, ?_⟩
          first | omega | (refine h _ _ ?_; unfold opThread; (repeat' split) <;> first | rfl | (exfalso; omega))
      · intro q16; omega
theorem spX12_takeOff {d n : Nat} {dy : Nat → Shp} {g : Hp} {P : Pst} {x1 : Int} (hn : 100 ≤ n) (hx : 0 ≤ x1 ∧ x1 < 60) (ho : 0 ≤ g 60 x1.toNat ∧ g 60 x1.toNat < 60) (h : P none n (W0 dy) (off g x1.toNat)) : Runs miX12_takeOff d [.ref 53, I_ x1] n (W0 dy) g P := by
  refine wX12_takeOff hn ⟨hx, fun c => ⟨ho, ?_⟩, fun c => ⟨ho, ?_⟩⟩
  · unfold off at h; rw [if_neg c] at h; exact h
  · unfold off at h; rw [if_pos c] at h; exact h
theorem rs_take {d n : Nat} {dy : Nat → Shp} {g : Hp} {P : Pst} {x1 : Int} (hn : 100 ≤ n) (hF : RF g) (h1 : i3 x1) (h : ∀ v g', opTake (up2 (up2 g 53 1 0) 53 0 0) x1 = (v, g') → P (some (I_ v)) n (W0 dy) g') : Runs miX12_take (d + 1) [.ref 53, I_ x1] n (W0 dy) g P := by
  have hF1 : RF (up2 (up2 g 53 1 0) 53 0 0) := hF
  refine wX12_take hn ?_
  generalize (up2 (up2 g 53 1 0) 53 0 0) = g1 at h hF1 ⊢
  clear hF
  have hN := hF1.1
  obtain ⟨dp, hD⟩ := hF1.2
  have hD' : 0 ≤ x1 → x1 < g1 53 5 → g1 60 x1.toNat < g1 53 5 := fun a b => (hD x1.toNat (by omega)).1.2
  refine wX12_isPart hn ?_
  refine ⟨by first | omega | assumption, ?_⟩
  refine ⟨?_, ?_⟩
  · intro q1
    refine bX12_take_15 hn ?_
    refine ⟨by first | omega | assumption, ?_⟩
    refine ⟨?_, ?_⟩
    · intro q2; omega
    · intro q3
      refine wX12_no hn ?_
      refine ⟨by first | omega | assumption, ?_⟩
      refine bX12_take_23 hn ?_
      refine ⟨by first | omega | assumption, ?_⟩
      first | omega | (refine h _ _ ?_; unfold opTake; (repeat' split) <;> first | rfl | (exfalso; omega))
  · intro q4
    refine ⟨?_, ?_⟩
    · intro q5
      refine bX12_take_15 hn ?_
      refine ⟨by first | omega | assumption, ?_⟩
      refine ⟨?_, ?_⟩
      · intro q6; omega
      · intro q7
        refine wX12_no hn ?_
        refine ⟨by first | omega | assumption, ?_⟩
        refine bX12_take_23 hn ?_
        refine ⟨by first | omega | assumption, ?_⟩
        first | omega | (refine h _ _ ?_; unfold opTake; (repeat' split) <;> first | rfl | (exfalso; omega))
    · intro q8
      refine bX12_take_15 hn ?_
      refine ⟨by first | omega | assumption, ?_⟩
      refine ⟨?_, ?_⟩
      · intro q9
        refine ⟨by first | omega | assumption, ?_⟩
        refine ⟨?_, ?_⟩
        · intro q10
          refine spX12_takeOff hn (by omega) (by omega) ?_
          refine bX12_take_45 hn ?_
          first | omega | (refine h _ _ ?_; unfold opTake; (repeat' split) <;> first | rfl | (exfalso; omega))
        · intro q11
          refine wX12_no hn ?_
          refine ⟨by first | omega | assumption, ?_⟩
          refine bX12_take_39 hn ?_
          refine ⟨by first | omega | assumption, ?_⟩
          first | omega | (refine h _ _ ?_; unfold opTake; (repeat' split) <;> first | rfl | (exfalso; omega))
      · intro q12; omega
theorem spX12_rodded {d n : Nat} {dy : Nat → Shp} {g : Hp} {P : Pst} {x1 : Int} (hn : 100 ≤ n) (hN : g 53 5 ≤ 60) (h1 : i3 x1) (h : P (some (I_ (rodI g x1))) n (W0 dy) g) : Runs miX12_rodded (d + 1) [.ref 53, I_ x1] n (W0 dy) g P := by
  have h' : ∀ v, rodI g x1 = v → P (some (I_ v)) n (W0 dy) g := fun v e => by rw [← e]; exact h
  refine wX12_rodded hn ?_
  refine wX12_isPart hn ?_
  refine ⟨by first | omega | assumption, ?_⟩
  refine ⟨?_, ?_⟩
  · intro q1
    refine bX12_rodded_5 hn ?_
    refine ⟨by first | omega | assumption, ?_⟩
    refine ⟨?_, ?_⟩
    · intro q2; omega
    · intro q3
      first | omega | (refine h' _ ?_; unfold rodI; (repeat' split) <;> first | rfl | (exfalso; omega))
  · intro q4
    refine ⟨?_, ?_⟩
    · intro q5
      refine bX12_rodded_5 hn ?_
      refine ⟨by first | omega | assumption, ?_⟩
      refine ⟨?_, ?_⟩
      · intro q6; omega
      · intro q7
        first | omega | (refine h' _ ?_; unfold rodI; (repeat' split) <;> first | rfl | (exfalso; omega))
    · intro q8
      refine bX12_rodded_5 hn ?_
      refine ⟨by first | omega | assumption, ?_⟩
      refine ⟨?_, ?_⟩
      · intro q9
        refine wX12_isRod hn ?_
        refine ⟨by first | omega | assumption, ?_⟩
        refine ⟨?_, ?_⟩
        · intro q10
          refine bX12_rodded_17 hn ?_
          refine ⟨by first | omega | assumption, ?_⟩
          refine ⟨?_, ?_⟩
          · intro q11; omega
          · intro q12
            first | omega | (refine h' _ ?_; unfold rodI; (repeat' split) <;> first | rfl | (exfalso; omega))
        · intro q13
          refine ⟨?_, ?_⟩
          · intro q14
            refine bX12_rodded_17 hn ?_
            refine ⟨by first | omega | assumption, ?_⟩
            refine ⟨?_, ?_⟩
            · intro q15
              first | omega | (refine h' _ ?_; unfold rodI; (repeat' split) <;> first | rfl | (exfalso; omega))
            · intro q16; omega
          · intro q17
            refine bX12_rodded_17 hn ?_
            refine ⟨by first | omega | assumption, ?_⟩
            refine ⟨?_, ?_⟩
            · intro q18; omega
            · intro q19
              first | omega | (refine h' _ ?_; unfold rodI; (repeat' split) <;> first | rfl | (exfalso; omega))
      · intro q20; omega
theorem rodI_b (g : Hp) (x1 : Int) : (rodI g x1 = 0 ∨ rodI g x1 = 2 ∨ rodI g x1 = 5) ∧ (rodI g x1 = 0 → (0 ≤ x1 ∧ x1 < g 53 5) ∧ (g 57 x1.toNat = 2 ∨ g 57 x1.toNat = 3)) := by
  unfold rodI
  repeat' split
  all_goals omega
theorem spX12_placed {d n : Nat} {dy : Nat → Shp} {g : Hp} {P : Pst} {x1 x2 : Int} (hn : 100 ≤ n) (h1 : i3 x1) (h2 : i3 x2) (h : P (some (I_ (plcI g x1 x2))) n (W0 dy) g) : Runs miX12_placed d [.ref 53, I_ x1, I_ x2] n (W0 dy) g P := by
  have h' : ∀ v, plcI g x1 x2 = v → P (some (I_ v)) n (W0 dy) g := fun v e => by rw [← e]; exact h
  refine wX12_placed hn ?_
  refine ⟨by first | omega | assumption, ?_⟩
  refine ⟨?_, ?_⟩
  · intro q1
    first | omega | (refine h' _ ?_; unfold plcI; (repeat' split) <;> first | rfl | (exfalso; omega))
  · intro q2
    refine ⟨?_, ?_⟩
    · intro q3
      refine ⟨by first | omega | assumption, ?_⟩
      refine ⟨?_, ?_⟩
      · intro q4
        refine ⟨by first | omega | assumption, ?_⟩
        refine ⟨?_, ?_⟩
        · intro q5
          first | omega | (refine h' _ ?_; unfold plcI; (repeat' split) <;> first | rfl | (exfalso; omega))
        · intro q6
          refine ⟨?_, ?_⟩
          · intro q7
            first | omega | (refine h' _ ?_; unfold plcI; (repeat' split) <;> first | rfl | (exfalso; omega))
          · intro q8
            first | omega | (refine h' _ ?_; unfold plcI; (repeat' split) <;> first | rfl | (exfalso; omega))
      · intro q9
        first | omega | (refine h' _ ?_; unfold plcI; (repeat' split) <;> first | rfl | (exfalso; omega))
    · intro q10
      first | omega | (refine h' _ ?_; unfold plcI; (repeat' split) <;> first | rfl | (exfalso; omega))
theorem plcI_b (g : Hp) (x1 x2 : Int) : (plcI g x1 x2 = 0 ∨ plcI g x1 x2 = 1 ∨ plcI g x1 x2 = 3 ∨ plcI g x1 x2 = 4) ∧ (plcI g x1 x2 = 0 → (0 ≤ x1 ∧ x1 < 6) ∧ 0 ≤ g 55 x1.toNat ∧ 0 ≤ x2 ∧ x2 < g 55 x1.toNat) := by
  unfold plcI
  repeat' split
  all_goals omega
theorem rs_tied {d n : Nat} {dy : Nat → Shp} {g : Hp} {P : Pst} {x1 x2 x3 : Int} (hn : 100 ≤ n) (hF : RF g) (h1 : i3 x1) (h2 : i3 x2) (h3 : i3 x3) (h : ∀ v g', opTied (up2 g 53 1 0) x1 x2 x3 = (v, g') → P (some (I_ v)) n (W0 dy) g') : Runs miX12_tied (d + 2) [.ref 53, I_ x1, I_ x2, I_ x3] n (W0 dy) g P := by
  have hF1 : RF (up2 g 53 1 0) := hF
  refine wX12_tied hn ?_
  generalize (up2 g 53 1 0) = g1 at h hF1 ⊢
  clear hF
  have hN := hF1.1
  have hb := rodI_b g1 x1
  refine spX12_rodded hn hN.2 h1 ?_
  unfold opTied at h
  generalize rodI g1 x1 = y at h hb ⊢
  refine bX12_tied_11 hn ?_
  refine ⟨by first | omega | assumption, ?_⟩
  refine ⟨?_, ?_⟩
  · intro q1
    refine ⟨by first | omega | assumption, ?_⟩
    refine ⟨?_, ?_⟩
    · intro q2
      refine wX12_no hn ?_
      refine ⟨by first | omega | assumption, ?_⟩
      refine bX12_tied_50 hn ?_
      refine ⟨by first | omega | assumption, ?_⟩
      first | omega | (refine h _ _ ?_; (repeat' split) <;> first | rfl | (exfalso; omega) | (rw [show y = 0 by omega]))
    · intro q3
      refine ⟨?_, ?_⟩
      · intro q4
        refine wX12_no hn ?_
        refine ⟨by first | omega | assumption, ?_⟩
        refine bX12_tied_50 hn ?_
        refine ⟨by first | omega | assumption, ?_⟩
        first | omega | (refine h _ _ ?_; (repeat' split) <;> first | rfl | (exfalso; omega) | (rw [show y = 0 by omega]))
      · intro q5
        refine ⟨by first | omega | assumption, ?_⟩
        refine ⟨?_, ?_⟩
        · intro q6
          refine wX12_no hn ?_
          refine ⟨by first | omega | assumption, ?_⟩
          refine bX12_tied_50 hn ?_
          refine ⟨by first | omega | assumption, ?_⟩
          first | omega | (refine h _ _ ?_; (repeat' split) <;> first | rfl | (exfalso; omega) | (rw [show y = 0 by omega]))
        · intro q7
          refine ⟨?_, ?_⟩
          · intro q8
            refine ⟨by first | omega | assumption, ?_⟩
            first | omega | (refine h _ _ ?_; (repeat' split) <;> first | rfl | (exfalso; omega) | (rw [show y = 0 by omega]))
          · intro q9
            refine wX12_no hn ?_
            refine ⟨by first | omega | assumption, ?_⟩
            refine bX12_tied_50 hn ?_
            refine ⟨by first | omega | assumption, ?_⟩
            first | omega | (refine h _ _ ?_; (repeat' split) <;> first | rfl | (exfalso; omega) | (rw [show y = 0 by omega]))
  · intro q10
    first | omega | (refine h _ _ ?_; (repeat' split) <;> first | rfl | (exfalso; omega) | (rw [show y = 0 by omega]))
theorem rs_rodAt {d n : Nat} {dy : Nat → Shp} {g : Hp} {P : Pst} {x1 x2 : Int} (hn : 100 ≤ n) (hF : RF g) (h1 : i3 x1) (h2 : i3 x2) (h : ∀ v g', opRodAt (up2 g 53 1 0) x1 x2 = (v, g') → P (some (L_ v)) n (W0 dy) g') : Runs miX12_rodAt (d + 2) [.ref 53, I_ x1, I_ x2] n (W0 dy) g P := by
  have hF1 : RF (up2 g 53 1 0) := hF
  refine wX12_rodAt hn ?_
  generalize (up2 g 53 1 0) = g1 at h hF1 ⊢
  clear hF
  have hN := hF1.1
  have hb := rodI_b g1 x1
  refine spX12_rodded hn hN.2 h1 ?_
  unfold opRodAt at h
  generalize rodI g1 x1 = y at h hb ⊢
  refine bX12_rodAt_11 hn ?_
  refine ⟨by first | omega | assumption, ?_⟩
  refine ⟨?_, ?_⟩
  · intro q1
    refine ⟨by first | omega | assumption, ?_⟩
    refine ⟨?_, ?_⟩
    · intro q2
      refine wX12_refuse hn ?_
      refine ⟨by first | omega | assumption, ?_⟩
      refine bX12_rodAt_116 hn ?_
      refine ⟨by first | omega | assumption, ?_⟩
      first | omega | (refine h _ _ ?_; (repeat' split) <;> first | rfl | (exfalso; omega) | (rw [show y = 0 by omega]))
    · refine ⟨?_, ?_⟩
      · intro q3
        refine ⟨by first | omega | assumption, ?_⟩
        first | omega | (refine h _ _ ?_; (repeat' split) <;> first | rfl | (exfalso; omega) | (rw [show y = 0 by omega]))
      · refine ⟨?_, ?_⟩
        · intro q4
          refine ⟨by first | omega | assumption, ?_⟩
          first | omega | (refine h _ _ ?_; (repeat' split) <;> first | rfl | (exfalso; omega) | (rw [show y = 0 by omega]))
        · refine ⟨?_, ?_⟩
          · intro q5
            refine ⟨by first | omega | assumption, ?_⟩
            first | omega | (refine h _ _ ?_; (repeat' split) <;> first | rfl | (exfalso; omega) | (rw [show y = 0 by omega]))
          · refine ⟨?_, ?_⟩
            · intro q6
              refine ⟨by first | omega | assumption, ?_⟩
              first | omega | (refine h _ _ ?_; (repeat' split) <;> first | rfl | (exfalso; omega) | (rw [show y = 0 by omega]))
            · refine ⟨?_, ?_⟩
              · intro q7
                refine ⟨by first | omega | assumption, ?_⟩
                first | omega | (refine h _ _ ?_; (repeat' split) <;> first | rfl | (exfalso; omega) | (rw [show y = 0 by omega]))
              · intro q8
                refine ⟨by first | omega | assumption, ?_⟩
                first | omega | (refine h _ _ ?_; (repeat' split) <;> first | rfl | (exfalso; omega) | (rw [show y = 0 by omega]))
  · intro q9
    first | omega | (refine h _ _ ?_; (repeat' split) <;> first | rfl | (exfalso; omega) | (rw [show y = 0 by omega]))
theorem rs_read {d n : Nat} {dy : Nat → Shp} {g : Hp} {P : Pst} {x1 x2 : Int} (hn : 100 ≤ n) (hT : ∀ t : Nat, t < 6 → g 55 t ≤ 16) (h1 : i3 x1) (h2 : i3 x2) (h : ∀ v g', opRead (up2 g 53 1 0) x1 x2 = (v, g') → P (some (L_ v)) n (W0 dy) g') : Runs miX12_read (d + 1) [.ref 53, I_ x1, I_ x2] n (W0 dy) g P := by
  have hT1 : ∀ t : Nat, t < 6 → (up2 g 53 1 0) 55 t ≤ 16 := hT
  refine wX12_read hn ?_
  generalize (up2 g 53 1 0) = g1 at h hT1 ⊢
  clear hT
  have hb := plcI_b g1 x1 x2
  have hT2 := hT1 x1.toNat
  refine spX12_placed hn h1 h2 ?_
  unfold opRead at h
  generalize plcI g1 x1 x2 = y at h hb ⊢
  refine bX12_read_12 hn ?_
  refine ⟨by first | omega | assumption, ?_⟩
  refine ⟨?_, ?_⟩
  · intro q1
    refine ⟨by first | omega | assumption, ?_⟩
    first | omega | (refine h _ _ ?_; (repeat' split) <;> first | rfl | (exfalso; omega) | (rw [show y = 0 by omega]))
  · intro q2
    first | omega | (refine h _ _ ?_; (repeat' split) <;> first | rfl | (exfalso; omega) | (rw [show y = 0 by omega]))
theorem rs_write {d n : Nat} {dy : Nat → Shp} {g : Hp} {P : Pst} {x1 x2 x3 : Int} (hn : 100 ≤ n) (hT : ∀ t : Nat, t < 6 → g 55 t ≤ 16 ∧ i3 (g 54 t)) (h1 : i3 x1) (h2 : i3 x2) (h3 : i6 x3) (h : ∀ v g', opWrite (up2 g 53 1 0) x1 x2 x3 = (v, g') → P (some (I_ v)) n (W0 dy) g') : Runs miX12_write (d + 1) [.ref 53, I_ x1, I_ x2, L_ x3] n (W0 dy) g P := by
  have hT1 : ∀ t : Nat, t < 6 → (up2 g 53 1 0) 55 t ≤ 16 ∧ i3 ((up2 g 53 1 0) 54 t) := hT
  refine wX12_write hn ?_
  generalize (up2 g 53 1 0) = g1 at h hT1 ⊢
  clear hT
  have hb := plcI_b g1 x1 x2
  have hT2 := hT1 x1.toNat
  have hs := c2s_6 x3
  have hi := c2i_6 x3
  refine spX12_placed hn h1 h2 ?_
  unfold opWrite at h
  generalize plcI g1 x1 x2 = y at h hb ⊢
  have hl : ∀ z, cutI (g1 54 x1.toNat) x3 = z → ∀ y', y' = 0 → P (some (I_ 1)) n (W0 dy) (up2 (up2 g1 53 0 y') 56 (16 * x1 + x2).toNat z) ∨ 0 < y := fun z e y' e' => by
    by_cases c : 0 < y
    · exact Or.inr c
    · left
      subst e e'
      refine h _ _ ?_
      rw [if_neg c]
  refine bX12_write_12 hn ⟨by omega, fun c => ⟨by omega, w2X12_cut hn ⟨by omega, fun c1 => ⟨fun c2 => bX12_write_44 hn ⟨by omega, by omega, ?_⟩, fun c2 => bX12_write_44 hn ⟨by omega, hi, ?_⟩⟩, fun c1 => bX12_write_44 hn ⟨by omega, hs, ?_⟩⟩⟩, fun c => ?_⟩
  · exact (hl _ (by unfold cutI; rw [if_neg c1, if_neg c2]) y (by omega)).resolve_right (by omega)
  · exact (hl _ (by unfold cutI; rw [if_neg c1, if_pos c2]) y (by omega)).resolve_right (by omega)
  · exact (hl _ (by unfold cutI; rw [if_pos c1]) y (by omega)).resolve_right (by omega)
  · refine h _ _ ?_
    rw [if_pos c]
theorem rs_part {d n : Nat} {dy : Nat → Shp} {g : Hp} {P : Pst} {x1 x2 : Int} (hn : 100 ≤ n) (hF : RF g) (h1 : i3 x1) (h2 : i3 x2) (h : ∀ v g', opPart (up2 (up2 g 53 1 0) 53 0 0) x1 x2 = (v, g') → P (some (I_ v)) n (W0 dy) g') : Runs miX12_part (d + 1) [.ref 53, I_ x1, I_ x2] n (W0 dy) g P := by
  have hF1 : RF (up2 (up2 g 53 1 0) 53 0 0) := hF
  refine wX12_part hn ?_
  generalize (up2 (up2 g 53 1 0) 53 0 0) = g1 at h hF1 ⊢
  clear hF
  have hN := hF1.1
  by_cases hx : 0 ≤ x1
  · obtain ⟨k, rfl⟩ := exN hx
    by_cases hk : (k : Int) < g1 53 5
    · clear hx
      refine wX12_isPart hn ?_
      refine ⟨by first | omega | assumption, ?_⟩
      refine ⟨?_, ?_⟩
      · intro q1
        refine bX12_part_15 hn ?_
        refine ⟨by first | omega | assumption, ?_⟩
        refine ⟨?_, ?_⟩
        · intro q2; omega
        · intro q3
          refine wX12_refuse hn ?_
          refine ⟨by first | omega | assumption, ?_⟩
          refine bX12_part_23 hn ?_
          first | omega | (refine h _ _ ?_; unfold opPart; (repeat' split) <;> first | rfl | (exfalso; omega))
      · intro q4
        refine ⟨?_, ?_⟩
        · intro q5
          refine bX12_part_15 hn ?_
          refine ⟨by first | omega | assumption, ?_⟩
          refine ⟨?_, ?_⟩
          · intro q6; omega
          · intro q7
            refine wX12_refuse hn ?_
            refine ⟨by first | omega | assumption, ?_⟩
            refine bX12_part_23 hn ?_
            first | omega | (refine h _ _ ?_; unfold opPart; (repeat' split) <;> first | rfl | (exfalso; omega))
        · intro q8
          refine bX12_part_15 hn ?_
          refine ⟨by first | omega | assumption, ?_⟩
          refine ⟨?_, ?_⟩
          · intro q9
            refine ⟨by first | omega | assumption, ?_⟩
            refine ⟨?_, ?_⟩
            · intro q10
              refine wX12_refuse hn ?_
              refine ⟨by first | omega | assumption, ?_⟩
              refine bX12_part_122 hn ?_
              first | omega | (refine h _ _ ?_; unfold opPart; (repeat' split) <;> first | rfl | (exfalso; omega))
            · refine ⟨?_, ?_⟩
              · intro q11
                refine ⟨by first | omega | assumption, ?_⟩
                first | omega | (refine h _ _ ?_; unfold opPart; (repeat' split) <;> first | rfl | (exfalso; omega))
              · refine ⟨?_, ?_⟩
                · intro q12
                  refine ⟨by first | omega | assumption, ?_⟩
                  first | omega | (refine h _ _ ?_; unfold opPart; (repeat' split) <;> first | rfl | (exfalso; omega))
                · refine ⟨?_, ?_⟩
                  · intro q13
                    refine ⟨by first | omega | assumption, ?_⟩
                    first | omega | (refine h _ _ ?_; unfold opPart; (repeat' split) <;> first | rfl | (exfalso; omega))
                  · refine ⟨?_, ?_⟩
                    · intro q14
                      refine ⟨by first | omega | assumption, ?_⟩
                      first | omega | (refine h _ _ ?_; unfold opPart; (repeat' split) <;> first | rfl | (exfalso; omega))
                    · refine ⟨?_, ?_⟩
                      · intro q15
                        refine ⟨by first | omega | assumption, ?_⟩
                        first | omega | (refine h _ _ ?_; unfold opPart; (repeat' split) <;> first | rfl | (exfalso; omega))
                      · refine ⟨?_, ?_⟩
                        · intro q16
                          refine spX12_heightOf hn hF1 hk ?_
                          refine bX12_part_109 hn ?_
                          first | omega | (refine h _ _ ?_; unfold opPart; (repeat' split) <;> first | rfl | (exfalso; omega))
                        · intro q17
                          refine spX12_topOf hn hF1 hk ?_
                          refine bX12_part_115 hn ?_
                          first | omega | (refine h _ _ ?_; unfold opPart; (repeat' split) <;> first | rfl | (exfalso; omega))
          · intro q18; omega
    · have e : opPart g1 (k : Int) x2 = (-1, up2 g1 53 0 2) := by unfold opPart; rw [if_pos (by omega)]
      have h' := h _ _ e
      refine wX12_isPart hn ?_
      refine ⟨by first | omega | assumption, ?_⟩
      refine ⟨?_, ?_⟩
      · intro q1
        refine bX12_part_15 hn ?_
        refine ⟨by first | omega | assumption, ?_⟩
        refine ⟨?_, ?_⟩
        · intro q2; omega
        · intro q3
          refine wX12_refuse hn ?_
          refine ⟨by first | omega | assumption, ?_⟩
          refine bX12_part_23 hn ?_
          first | omega | exact h'
      · intro q4
        refine ⟨?_, ?_⟩
        · intro q5
          refine bX12_part_15 hn ?_
          refine ⟨by first | omega | assumption, ?_⟩
          refine ⟨?_, ?_⟩
          · intro q6; omega
          · intro q7
            refine wX12_refuse hn ?_
            refine ⟨by first | omega | assumption, ?_⟩
            refine bX12_part_23 hn ?_
            first | omega | exact h'
        · intro q8
          refine bX12_part_15 hn ?_
          refine ⟨by first | omega | assumption, ?_⟩
          refine ⟨?_, ?_⟩
          · intro q9
            refine ⟨by first | omega | assumption, ?_⟩
            refine ⟨?_, ?_⟩
            · intro q10
              refine wX12_refuse hn ?_
              refine ⟨by first | omega | assumption, ?_⟩
              refine bX12_part_122 hn ?_
              first | omega | exact h'
            · refine ⟨?_, ?_⟩
              · intro q11
                refine ⟨by first | omega | assumption, ?_⟩
                first | omega | exact h'
              · refine ⟨?_, ?_⟩
                · intro q12
                  refine ⟨by first | omega | assumption, ?_⟩
                  first | omega | exact h'
                · refine ⟨?_, ?_⟩
                  · intro q13
                    refine ⟨by first | omega | assumption, ?_⟩
                    first | omega | exact h'
                  · refine ⟨?_, ?_⟩
                    · intro q14
                      refine ⟨by first | omega | assumption, ?_⟩
                      first | omega | exact h'
                    · refine ⟨?_, ?_⟩
                      · intro q15
                        refine ⟨by first | omega | assumption, ?_⟩
                        first | omega | exact h'
                      · refine ⟨?_, ?_⟩
                        · intro q16
                          omega
                        · intro q17
                          omega
          · intro q18; omega
  · have e : opPart g1 x1 x2 = (-1, up2 g1 53 0 2) := by unfold opPart; rw [if_pos (by omega)]
    have h' := h _ _ e
    refine wX12_isPart hn ?_
    refine ⟨by first | omega | assumption, ?_⟩
    refine ⟨?_, ?_⟩
    · intro q1
      refine bX12_part_15 hn ?_
      refine ⟨by first | omega | assumption, ?_⟩
      refine ⟨?_, ?_⟩
      · intro q2; omega
      · intro q3
        refine wX12_refuse hn ?_
        refine ⟨by first | omega | assumption, ?_⟩
        refine bX12_part_23 hn ?_
        first | omega | exact h'
    · intro q4
      refine ⟨?_, ?_⟩
      · intro q5
        refine bX12_part_15 hn ?_
        refine ⟨by first | omega | assumption, ?_⟩
        refine ⟨?_, ?_⟩
        · intro q6; omega
        · intro q7
          refine wX12_refuse hn ?_
          refine ⟨by first | omega | assumption, ?_⟩
          refine bX12_part_23 hn ?_
          first | omega | exact h'
      · intro q8
        refine bX12_part_15 hn ?_
        refine ⟨by first | omega | assumption, ?_⟩
        refine ⟨?_, ?_⟩
        · intro q9
          refine ⟨by first | omega | assumption, ?_⟩
          refine ⟨?_, ?_⟩
          · intro q10
            refine wX12_refuse hn ?_
            refine ⟨by first | omega | assumption, ?_⟩
            refine bX12_part_122 hn ?_
            first | omega | exact h'
          · refine ⟨?_, ?_⟩
            · intro q11
              refine ⟨by first | omega | assumption, ?_⟩
              first | omega | exact h'
            · refine ⟨?_, ?_⟩
              · intro q12
                refine ⟨by first | omega | assumption, ?_⟩
                first | omega | exact h'
              · refine ⟨?_, ?_⟩
                · intro q13
                  refine ⟨by first | omega | assumption, ?_⟩
                  first | omega | exact h'
                · refine ⟨?_, ?_⟩
                  · intro q14
                    refine ⟨by first | omega | assumption, ?_⟩
                    first | omega | exact h'
                  · refine ⟨?_, ?_⟩
                    · intro q15
                      refine ⟨by first | omega | assumption, ?_⟩
                      first | omega | exact h'
                    · refine ⟨?_, ?_⟩
                      · intro q16
                        omega
                      · intro q17
                        omega
        · intro q18; omega
theorem spX12_newWeight {d n : Nat} {dy : Nat → Shp} {g : Hp} {P : Pst} {x1 : Int} (hn : 100 ≤ n) (hN : 0 ≤ g 53 5 ∧ g 53 5 ≤ 60) (h1 : i6 x1) (h : ∀ v g', nwW g x1 = (v, g') → P (some (I_ v)) n (W0 dy) g') : Runs miX12_newWeight (d + 1) [.ref 53, L_ x1] n (W0 dy) g P := by
  refine wX12_newWeight hn ?_
  refine ⟨by first | omega | assumption, ?_⟩
  refine ⟨?_, ?_⟩
  · intro q1
    refine wX12_refuse hn ?_
    refine ⟨by first | omega | assumption, ?_⟩
    refine bX12_newWeight_20 hn ?_
    first | omega | (refine h _ _ ?_; unfold nwW; (repeat' split) <;> first | rfl | (exfalso; omega))
  · intro q2
    refine ⟨?_, ?_⟩
    · intro q3
      refine ⟨?_, ?_⟩
      · intro q4
        refine wX12_newPart hn ?_
        refine ⟨by first | omega | assumption, ?_⟩
        refine ⟨by first | omega | assumption, ?_⟩
        refine ⟨by first | omega | assumption, ?_⟩
        refine ⟨by first | omega | assumption, ?_⟩
        refine bX12_newWeight_45 hn ?_
        first | omega | (refine h _ _ ?_; unfold nwW; (repeat' split) <;> first | rfl | (exfalso; omega))
      · intro q5
        refine wX12_refuse hn ?_
        refine ⟨by first | omega | assumption, ?_⟩
        refine bX12_newWeight_36 hn ?_
        refine bX12_newWeight_45 hn ?_
        first | omega | (refine h _ _ ?_; unfold nwW; (repeat' split) <;> first | rfl | (exfalso; omega))
    · intro q6
      refine wX12_refuse hn ?_
      refine ⟨by first | omega | assumption, ?_⟩
      refine bX12_newWeight_20 hn ?_
      first | omega | (refine h _ _ ?_; unfold nwW; (repeat' split) <;> first | rfl | (exfalso; omega))
theorem rs_weight {d n : Nat} {dy : Nat → Shp} {g : Hp} {P : Pst} {x1 : Int} (hn : 100 ≤ n) (hN : 0 ≤ g 53 5 ∧ g 53 5 ≤ 60) (h1 : i3 x1) (h : ∀ v g', nwW (up2 (up2 g 53 1 0) 53 0 0) x1 = (v, g') → P (some (I_ v)) n (W0 dy) g') : Runs miX12_weight (d + 2) [.ref 53, I_ x1] n (W0 dy) g P := by
  refine wX12_weight hn ⟨h1, spX12_newWeight hn hN ⟨by omega, by omega⟩ fun v g' e => ?_⟩
  exact bX12_weight_16 hn (h v g' e)
theorem rs_load {d n : Nat} {dy : Nat → Shp} {g : Hp} {P : Pst} {x1 x2 : Int} (hn : 100 ≤ n) (hN : 0 ≤ g 53 5 ∧ g 53 5 ≤ 60) (hT : ∀ t : Nat, t < 6 → g 55 t ≤ 16) (h6 : ∀ q : Nat, q < 96 → i6 (g 56 q)) (h1 : i3 x1) (h2 : i3 x2) (h : ∀ v g', opLoad (up2 g 53 1 0) x1 x2 = (v, g') → P (some (I_ v)) n (W0 dy) g') : Runs miX12_load (d + 2) [.ref 53, I_ x1, I_ x2] n (W0 dy) g P := by
  have hT1 : ∀ t : Nat, t < 6 → (up2 g 53 1 0) 55 t ≤ 16 := hT
  have hN1 : 0 ≤ (up2 g 53 1 0) 53 5 ∧ (up2 g 53 1 0) 53 5 ≤ 60 := hN
  have h61 : ∀ q : Nat, q < 96 → i6 ((up2 g 53 1 0) 56 q) := h6
  refine wX12_load hn ?_
  generalize (up2 g 53 1 0) = g1 at h hT1 hN1 h61 ⊢
  clear hT hN h6
  have hb := plcI_b g1 x1 x2
  have hT2 := hT1 x1.toNat
  refine spX12_placed hn h1 h2 ?_
  unfold opLoad at h
  generalize plcI g1 x1 x2 = y at h hb ⊢
  refine bX12_load_12 hn ⟨by omega, fun c => ⟨by omega, spX12_newWeight hn hN1 (h61 _ (by omega)) fun v g' e => bX12_load_41 hn ?_⟩, fun c => bX12_load_41 hn ?_⟩
  · rw [if_neg (by omega)] at h
    rw [show y = 0 by omega] at e
    exact h v g' e
  · rw [if_pos c] at h
    exact h _ _ rfl
theorem rs_rod {d n : Nat} {dy : Nat → Shp} {g : Hp} {P : Pst} {x1 x2 x3 : Int} (hn : 100 ≤ n) (hN : 0 ≤ g 53 5 ∧ g 53 5 ≤ 60) (h1 : i3 x1) (h2 : i3 x2) (h3 : i3 x3) (h : ∀ v g', opRod (up2 (up2 g 53 1 0) 53 0 0) x1 x2 x3 = (v, g') → P (some (I_ v)) n (W0 dy) g') : Runs miX12_rod (d + 1) [.ref 53, I_ x1, I_ x2, I_ x3] n (W0 dy) g P := by
  have hm : 0 ≤ x1 → x1 ≤ 1000 → 0 ≤ x2 → x2 ≤ 1000 → 0 ≤ x1 * x2 ∧ x1 * x2 ≤ 1000000 := fun a b c e => ⟨Int.mul_nonneg a c, by have := Int.mul_le_mul b e c (by omega : (0 : Int) ≤ 1000); omega⟩
  have hN1 : 0 ≤ (up2 (up2 g 53 1 0) 53 0 0) 53 5 ∧ (up2 (up2 g 53 1 0) 53 0 0) 53 5 ≤ 60 := hN
  refine wX12_rod hn ?_
  have e9 : g 53 5 = (up2 (up2 g 53 1 0) 53 0 0) 53 5 := rfl
  rw [e9]
  generalize (up2 (up2 g 53 1 0) 53 0 0) = g1 at h hN1 ⊢
  refine ⟨by first | omega | assumption, ?_⟩
  refine ⟨?_, ?_⟩
  · intro q1
    refine wX12_refuse hn ?_
    refine ⟨by first | omega | assumption, ?_⟩
    refine bX12_rod_39 hn ?_
    first | omega | (refine h _ _ ?_; unfold opRod; (repeat' split) <;> first | rfl | (exfalso; omega))
  · intro q2
    refine ⟨?_, ?_⟩
    · intro q3
      refine wX12_refuse hn ?_
      refine ⟨by first | omega | assumption, ?_⟩
      refine bX12_rod_39 hn ?_
      first | omega | (refine h _ _ ?_; unfold opRod; (repeat' split) <;> first | rfl | (exfalso; omega))
    · intro q4
      refine ⟨by first | omega | assumption, ?_⟩
      refine ⟨?_, ?_⟩
      · intro q5
        refine wX12_refuse hn ?_
        refine ⟨by first | omega | assumption, ?_⟩
        refine bX12_rod_39 hn ?_
        first | omega | (refine h _ _ ?_; unfold opRod; (repeat' split) <;> first | rfl | (exfalso; omega))
      · intro q6
        refine ⟨?_, ?_⟩
        · intro q7
          refine ⟨?_, ?_⟩
          · intro q8
            refine ⟨by first | omega | assumption, ?_⟩
            refine ⟨?_, ?_⟩
            · intro q9
              refine wX12_newPart hn ?_
              refine ⟨by first | omega | assumption, ?_⟩
              refine ⟨by first | omega | assumption, ?_⟩
              refine ⟨by first | omega | assumption, ?_⟩
              refine ⟨by first | omega | assumption, ?_⟩
              refine bX12_rod_74 hn ?_
              refine ⟨by first | omega | assumption, ?_⟩
              refine ⟨by first | omega | assumption, ?_⟩
              refine ⟨by first | omega | assumption, ?_⟩
              first | omega | (refine h _ _ ?_; unfold opRod; (repeat' split) <;> first | rfl | (exfalso; omega))
            · intro q10
              refine wX12_newPart hn ?_
              refine ⟨by first | omega | assumption, ?_⟩
              refine ⟨by first | omega | assumption, ?_⟩
              refine ⟨by first | omega | assumption, ?_⟩
              refine ⟨by first | omega | assumption, ?_⟩
              refine bX12_rod_74 hn ?_
              refine ⟨by first | omega | assumption, ?_⟩
              refine ⟨by first | omega | assumption, ?_⟩
              refine ⟨by first | omega | assumption, ?_⟩
              first | omega | (refine h _ _ ?_; unfold opRod; (repeat' split) <;> first | rfl | (exfalso; omega))
          · intro q11
            refine wX12_refuse hn ?_
            refine ⟨by first | omega | assumption, ?_⟩
            refine bX12_rod_55 hn ?_
            first | omega | (refine h _ _ ?_; unfold opRod; (repeat' split) <;> first | rfl | (exfalso; omega))
        · intro q12
          refine wX12_refuse hn ?_
          refine ⟨by first | omega | assumption, ?_⟩
          refine bX12_rod_39 hn ?_
          first | omega | (refine h _ _ ?_; unfold opRod; (repeat' split) <;> first | rfl | (exfalso; omega))

theorem clr_up (g : Hp) (t m : Nat) : up2 (clr g t m) 56 (16 * t + m) 0 = clr g t (m + 1) := by
  funext i q
  unfold up2 clr
  repeat' split
  all_goals first | rfl | omega
theorem clr_z (g : Hp) (t : Nat) : clr g t 0 = g := by
  funext i q
  unfold clr
  rw [if_neg (by omega)]
theorem spX12_tray_76 {d n : Nat} {dy : Nat → Shp} {g : Hp} {P : Pst} {t m : Nat} {x2 : Int} (hn : 100 ≤ n) (ht : t < 6) (hm : m ≤ 16) (h : P (some (I_ 1)) n (W0 dy) (clr g t m)) : V miX12_tray (d + 1) 76 [(0, .ref 53), (1, I_ (t : Int)), (2, I_ x2), (3, I_ (m : Int)), (4, I_ 0)] [] n (W0 dy) g 0 0 P := by
  have key : ∀ (f j : Nat), j + f = m → V miX12_tray (d + 1) 76 [(0, .ref 53), (1, I_ (t : Int)), (2, I_ x2), (3, I_ (m : Int)), (4, I_ (j : Int))] [] n (W0 dy) (clr g t j) 0 0 P := by
    intro f
    induction f with
    | zero =>
      intro j hj
      refine bX12_tray_76 hn ⟨⟨by omega, by omega⟩, ⟨by omega, by omega⟩, fun _ => ?_, fun _ => by omega⟩
      rw [show j = m by omega]; exact h
    | succ f ih =>
      intro j hj
      refine bX12_tray_76 hn ⟨⟨by omega, by omega⟩, ⟨by omega, by omega⟩, fun _ => by omega, fun _ => ⟨⟨by omega, by omega⟩, ?_⟩⟩
      have := ih (j + 1) (by omega)
      rw [← clr_up] at this
      rw [show (16 * (t : Int) + (j : Int)).toNat = 16 * t + j by omega]
      exact this
  have := key m 0 (by omega)
  rw [clr_z] at this
  exact this
theorem rs_tray {d n : Nat} {dy : Nat → Shp} {g : Hp} {P : Pst} {x1 x2 x3 : Int} (hn : 100 ≤ n) (h1 : i3 x1) (h2 : i3 x2) (h3 : i3 x3) (h : ∀ v g', opTray (up2 (up2 g 53 1 0) 53 0 0) x1 x2 x3 = (v, g') → P (some (I_ v)) n (W0 dy) g') : Runs miX12_tray (d + 1) [.ref 53, I_ x1, I_ x2, I_ x3] n (W0 dy) g P := by
  have hlast : 0 ≤ x1 → x1 < 6 → 0 ≤ x2 → x2 ≤ 2 → 0 ≤ x3 → x3 ≤ 16 → V miX12_tray (d + 1) 76 [(0, .ref 53), (1, I_ x1), (2, I_ x2), (3, I_ x3), (4, I_ 0)] [] n (W0 dy) (up2 (up2 (up2 (up2 g 53 1 0) 53 0 0) 54 x1.toNat x2) 55 x1.toNat x3) 0 0 P := by
    intro a1 a2 a3 a4 a5 a6
    have h' : P (some (I_ 1)) n (W0 dy) (clr (up2 (up2 (up2 (up2 g 53 1 0) 53 0 0) 54 x1.toNat x2) 55 x1.toNat x3) x1.toNat x3.toNat) := by
      refine h _ _ ?_
      unfold opTray
      (repeat' split) <;> first | rfl | (exfalso; omega)
    obtain ⟨t, rfl⟩ := exN a1
    obtain ⟨m, rfl⟩ := exN a5
    exact spX12_tray_76 hn (by omega) (by omega) h'
  refine wX12_tray hn ?_
  refine ⟨by first | omega | assumption, ?_⟩
  refine ⟨?_, ?_⟩
  · intro q1
    refine wX12_no hn ?_
    refine ⟨by first | omega | assumption, ?_⟩
    refine bX12_tray_34 hn ?_
    refine ⟨by first | omega | assumption, ?_⟩
    first | omega | (refine h _ _ ?_; unfold opTray; (repeat' split) <;> first | rfl | (exfalso; omega))
  · intro q2
    refine ⟨?_, ?_⟩
    · intro q3
      refine wX12_no hn ?_
      refine ⟨by first | omega | assumption, ?_⟩
      refine bX12_tray_34 hn ?_
      refine ⟨by first | omega | assumption, ?_⟩
      first | omega | (refine h _ _ ?_; unfold opTray; (repeat' split) <;> first | rfl | (exfalso; omega))
    · intro q4
      refine ⟨by first | omega | assumption, ?_⟩
      refine ⟨?_, ?_⟩
      · intro q5
        refine wX12_no hn ?_
        refine ⟨by first | omega | assumption, ?_⟩
        refine bX12_tray_34 hn ?_
        refine ⟨by first | omega | assumption, ?_⟩
        first | omega | (refine h _ _ ?_; unfold opTray; (repeat' split) <;> first | rfl | (exfalso; omega))
      · intro q6
        refine ⟨?_, ?_⟩
        · intro q7
          refine ⟨by first | omega | assumption, ?_⟩
          refine ⟨?_, ?_⟩
          · intro q8
            refine ⟨?_, ?_⟩
            · intro q9
              refine ⟨by first | omega | assumption, ?_⟩
              refine hlast ?_ ?_ ?_ ?_ ?_ ?_ <;> omega
            · intro q10
              refine wX12_no hn ?_
              refine ⟨by first | omega | assumption, ?_⟩
              refine bX12_tray_58 hn ?_
              refine ⟨by first | omega | assumption, ?_⟩
              first | omega | (refine h _ _ ?_; unfold opTray; (repeat' split) <;> first | rfl | (exfalso; omega))
          · intro q11
            refine wX12_no hn ?_
            refine ⟨by first | omega | assumption, ?_⟩
            refine bX12_tray_45 hn ?_
            refine ⟨by first | omega | assumption, ?_⟩
            first | omega | (refine h _ _ ?_; unfold opTray; (repeat' split) <;> first | rfl | (exfalso; omega))
        · intro q12
          refine wX12_no hn ?_
          refine ⟨by first | omega | assumption, ?_⟩
          refine bX12_tray_34 hn ?_
          refine ⟨by first | omega | assumption, ?_⟩
          first | omega | (refine h _ _ ?_; unfold opTray; (repeat' split) <;> first | rfl | (exfalso; omega))
