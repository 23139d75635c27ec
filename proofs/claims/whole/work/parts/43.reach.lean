/-! REACH -/
section Reach
variable {d n : Nat} {dy : Nat → Shp} {g a : Hp} {P : Pst}
theorem msr_b (hI : Inv a) {dp : Nat → Nat} (hD : DP (a 53 5) (a 60) dp) {s : Int} : ∀ (f k : Nat) (t : Int × Int × Int), dp k = f → (k : Int) < a 53 5 → (t.1 = 0 ∨ t.1 = 1) → (0 ≤ t.2.1 ∧ t.2.1 + 1000 * f ≤ 60000) → (0 ≤ t.2.2 ∧ t.2.2 ≤ 1000) → ((msr a s 60 k t).1 = 0 ∨ (msr a s 60 k t).1 = 1) ∧ (0 ≤ (msr a s 60 k t).2.1 ∧ (msr a s 60 k t).2.1 ≤ 60000) ∧ (0 ≤ (msr a s 60 k t).2.2 ∧ (msr a s 60 k t).2.2 ≤ 1000) := by
  intro f
  induction f with
  | zero =>
    intro k t hf hk h1 h2 h3
    rw [msr_eq hD hI.1.2 hk, if_pos]
    · exact ⟨h1, ⟨h2.1, by omega⟩, h3⟩
    · by_cases c : a 60 k < 0
      · exact Or.inl c
      · have := (hD k hk).2.2.2 (by omega); omega
  | succ f ih =>
    intro k t hf hk h1 h2 h3
    rw [msr_eq hD hI.1.2 hk]
    by_cases c : a 60 k < 0 ∨ a 60 k = s
    · rw [if_pos c]; exact ⟨h1, ⟨h2.1, by omega⟩, h3⟩
    · rw [if_neg c]
      have hz : 0 ≤ a 60 k := by omega
      have hon := (hD k hk).1
      have hd := (hD k hk).2.2.2 hz
      have hrod := ((hI.2.2.1 k hk).1.2.2.1 hz).2.1
      have ab := armI_b hI (r := (a 60 k).toNat) (by omega) hrod (a 61 k)
      have wb := whI_b (a := a) (a 60 k).toNat
      generalize armI a (a 60 k).toNat (a 61 k) = y at *
      refine ih _ _ (by omega) (by omega) ?_ ?_ ?_
      · show (if t.1 = 0 then 0 else whI a (a 60 k).toNat) = 0 ∨ (if t.1 = 0 then 0 else whI a (a 60 k).toNat) = 1
        split
        · exact Or.inl rfl
        · exact wb
      · show 0 ≤ t.2.1 + y ∧ t.2.1 + y + 1000 * f ≤ 60000
        omega
      · show 0 ≤ max t.2.2 y ∧ max t.2.2 y ≤ 1000
        omega
theorem msr_b0 (hI : Inv a) {k : Nat} {s : Int} (hk : (k : Int) < a 53 5) : ((msr a s 60 k (1, 0, 0)).1 = 0 ∨ (msr a s 60 k (1, 0, 0)).1 = 1) ∧ (0 ≤ (msr a s 60 k (1, 0, 0)).2.1 ∧ (msr a s 60 k (1, 0, 0)).2.1 ≤ 60000) ∧ (0 ≤ (msr a s 60 k (1, 0, 0)).2.2 ∧ (msr a s 60 k (1, 0, 0)).2.2 ≤ 1000) := by
  obtain ⟨dp, hD⟩ := hI.dp
  have h1 := (hD k hk).2.1
  have h2 := hI.1.2
  exact msr_b hI hD (dp k) k (1, 0, 0) rfl hk (Or.inr rfl) ⟨Int.le_refl 0, by show 0 + 1000 * ((dp k : Nat) : Int) ≤ 60000; omega⟩ ⟨Int.le_refl 0, by decide⟩
theorem msr_cg {g1 : Hp} (h : rz g1 = rz g) (s : Int) : ∀ (f k : Nat) (t : Int × Int × Int), msr g1 s f k t = msr g s f k t
  | 0, _, _ => rfl
  | f + 1, k, t => by
    have e59 := rz_row (i := 59) h (fun _ => rfl)
    have e60 := rz_row (i := 60) h (fun _ => rfl)
    have e61 := rz_row (i := 61) h (fun _ => rfl)
    have e64 := rz_row (i := 64) h (fun _ => rfl)
    have e65 := rz_row (i := 65) h (fun _ => rfl)
    show (if g1 60 k < 0 ∨ g1 60 k = s then t else msr g1 s f (g1 60 k).toNat _) = if g 60 k < 0 ∨ g 60 k = s then t else msr g s f (g 60 k).toNat _
    unfold whI armI
    rw [msr_cg h s f, e59, e60, e61, e64, e65]
def opReach (a : Hp) (x1 x2 x3 : Int) : Int × Hp :=
  if x1 < 0 ∨ a 53 5 ≤ x1 ∨ x2 < 0 ∨ a 53 5 ≤ x2 then (-1, up2 a 53 0 2)
  else if a 57 x2.toNat ≠ 2 ∧ a 57 x2.toNat ≠ 3 then (-1, up2 a 53 0 5)
  else if x1 = x2 ∨ abvI (a 60) x2.toNat x1.toNat = 0 then (-1, up2 a 53 0 8)
  else if (msr a (a 60 x2.toNat) 60 x1.toNat (1, 0, 0)).1 = 0 then (-1, up2 a 53 0 9)
  else (if x3 = 0 then max 0 (2 * (msr a (a 60 x2.toNat) 60 x1.toNat (1, 0, 0)).2.2 - (msr a (a 60 x2.toNat) 60 x1.toNat (1, 0, 0)).2.1) else (msr a (a 60 x2.toNat) 60 x1.toNat (1, 0, 0)).2.1, a)
theorem abvI_t {on : Nat → Int} {r k : Nat} (h : abvI on r k ≠ 0) : abv on r 60 k = true := by
  unfold abvI at h
  cases hh : abv on r 60 k with
  | true => rfl
  | false => rw [hh] at h; exact absurd rfl h
theorem cs_notSelf {k : Nat} (hC : Ca n dy g a) (hI : Inv a) (hk : (k : Int) < a 53 5) (h : P (some (I_ 0)) n (W0 dy) g) : Runs miX11_isAbove d [.ref (g 3 k).toNat, .ref (g 3 k).toNat] n (W0 dy) g P := by
  obtain ⟨dp, hD⟩ := hI.dp
  have key : ∀ (f j : Nat), dp j = f → (j : Int) < a 53 5 → dp j ≤ dp k → V miX11_isAbove d 5 [(0, .ref (g 3 k).toNat), (1, .ref (g 3 k).toNat), (2, .ref ((g (g 3 j).toNat 3).toNat))] [] n (W0 dy) g 0 0 P := by
    intro f
    induction f with
    | zero =>
      intro j hf hj _
      obtain ⟨u1, u2⟩ := above_b hC hI hj
      have c : a 60 j < 0 := by
        by_cases c : a 60 j < 0
        · exact c
        · have := (hD j hj).2.2.2 (by omega); omega
      rw [u1 c]
      exact bX11_isAbove_5 hC.1 ⟨fun _ => h, fun q => absurd q (Nat.lt_irrefl 0)⟩
    | succ f ih =>
      intro j hf hj hle
      obtain ⟨u1, u2⟩ := above_b hC hI hj
      have c : 0 ≤ a 60 j := by
        by_cases c : a 60 j < 0
        · have := (hD j hj).2.2.1 c; omega
        · omega
      obtain ⟨v1, v2, v3, v4, v5⟩ := u2 c
      have h4 := (hD j hj).2.2.2 c
      rw [v2]
      refine bX11_isAbove_5 hC.1 ⟨fun q => by omega, fun _ => ⟨fun q => ⟨(hC.2.2.2.1 _ v1).ob v5, ih _ (by omega) v1 (by omega)⟩, fun q => ?_⟩⟩
      have : (a 60 j).toNat = k := (hC.ne v1 hk).mp q
      rw [this] at h4
      omega
  exact wX11_isAbove hC.1 ⟨(hC.2.2.2.1 k hk).pt (hI.2.2.1 k hk).2, key _ k rfl hk (Nat.le_refl _)⟩
theorem cs_reach {x1 x2 x3 : Int} (hC : Ca n dy g a) (hI : Inv a) (h1 : i3 x1) (h2 : i3 x2) (h3 : i3 x3) (h : ∀ v a' g', opReach (up2 a 53 0 0) x1 x2 x3 = (v, a') → Ca n dy g' a' → Kr g g' → P (some (I_ v)) n (W0 dy) g') : Runs miX11_reach (d + 2) [.ref 1, I_ x1, I_ x2, I_ x3] n (W0 dy) g P := by
  have hn := hC.1
  have kr : ∀ w, Kr g (up2 g 1 3 w) := fun w => (Kr.refl g).up (by omega)
  have bad : ∀ (r5 r6 : Nat), (x1 < 0 ∨ a 53 5 ≤ x1 ∨ x2 < 0 ∨ a 53 5 ≤ x2) → Runs miX11_none (d + 1) [.ref 1, I_ 2] n (W0 dy) g (fun v n' S' g' => V miX11_reach (d + 2) 29 [(0, .ref 1), (1, I_ x1), (2, I_ x2), (3, I_ x3), (4, .ref r5), (5, .ref r6)] (v.toList ++ []) n' S' g' 0 0 P) := fun r5 r6 c => by
    refine wX11_none hn ⟨by decide, bX11_reach_29 hn (h _ _ _ ?_ (hC.st2 0 2) (kr 2))⟩
    unfold opReach; exact if_pos c
  refine wX11_reach hn (cs_partAt hC hI h1 ⟨fun c => bX11_reach_5 hn (cs_partAt hC hI h2 ⟨fun c' => ?_, fun c1' c2' => ?_⟩), fun c1 c2 => bX11_reach_5 hn (cs_partAt hC hI h2 ⟨fun c' => ?_, fun c1' c2' => ?_⟩)⟩)
  · exact bX11_reach_12 hn ⟨fun _ => bad _ _ (by omega), fun q => by omega⟩
  · exact bX11_reach_12 hn ⟨fun _ => bad _ _ (by omega), fun q => by omega⟩
  · have hb := hC.cell (k := x1.toNat) (by omega)
    exact bX11_reach_12 hn ⟨fun q => by omega, fun _ => ⟨fun q => by omega, fun _ => bad _ _ (by omega)⟩⟩
  · clear bad
    obtain ⟨x, rfl⟩ := exN c1
    obtain ⟨r, rfl⟩ := exN c1'
    have hx : (x : Int) < a 53 5 := c2
    have hr : (r : Int) < a 53 5 := c2'
    clear c1 c1' c2 c2'
    have bx : 0 < (g 3 x).toNat := by have := hC.cell hx; omega
    have br : 0 < (g 3 r).toNat := by have := hC.cell hr; omega
    have g1 : ¬ ((x : Int) < 0 ∨ a 53 5 ≤ (x : Int) ∨ (r : Int) < 0 ∨ a 53 5 ≤ (r : Int)) := by omega
    show V miX11_reach (d + 2) 12 [(0, .ref 1), (1, I_ (x : Int)), (2, I_ (r : Int)), (3, I_ x3), (4, .ref (g 3 x).toNat)] [.ref (g 3 r).toNat] n (W0 dy) g 0 0 P
    refine bX11_reach_12 hn ⟨fun q => absurd q (Nat.ne_of_gt bx), fun _ => ⟨fun _ => cs_asRod hC hI hr ⟨fun c => ?_, fun c => ?_⟩, fun q => absurd q (Nat.ne_of_gt br)⟩⟩
    · have g2 : ¬ (a 57 r ≠ 2 ∧ a 57 r ≠ 3) := by omega
      have no8 : ((x : Int) = (r : Int) ∨ abvI (a 60) r x = 0) → V miX11_reach (d + 2) 55 [(0, .ref 1), (1, I_ (x : Int)), (2, I_ (r : Int)), (3, I_ x3), (4, .ref (g 3 x).toNat), (5, .ref (g 3 r).toNat), (6, .ref (g 3 r).toNat)] [I_ 0] n (W0 dy) g 0 0 P := fun c8 => by
        refine bX11_reach_55 hn ⟨by decide, fun q => absurd rfl q, fun _ => wX11_none hn ⟨by decide, bX11_reach_64 hn (h _ _ _ ?_ (hC.st2 0 8) (kr 8))⟩⟩
        unfold opReach; exact (if_neg g1).trans ((if_neg g2).trans (if_pos c8))
      refine bX11_reach_35 hn ⟨fun _ => ?_, fun q => absurd q (Nat.ne_of_gt br)⟩
      by_cases exr : r = x
      · subst exr
        exact cs_notSelf hC hI hr (no8 (Or.inl rfl))
      · refine cs_isAbove hC hI hr hx exr ⟨fun c8 => no8 (Or.inr c8), fun c8 => ?_⟩
        have g3 : ¬ ((x : Int) = (r : Int) ∨ abvI (a 60) r x = 0) := by omega
        clear no8
        obtain ⟨u1, u2⟩ := above_b hC hI hr
        have onb := (hI.2.2.1 r hr).1.1
        have e3 : g (g 3 r).toNat 3 = rfx (g 3) (a 60 r) := (hC.known hr).1.1
        refine bX11_reach_55 hn ⟨by decide, fun _ => ⟨(hC.2.2.2.1 _ hr).ob c, ?_⟩, fun q => absurd q (by decide)⟩
        rw [e3]
        have mb := msr_b0 hI (s := a 60 r) hx
        refine cs_measure hC hI (Or.inl rfl) hx onb fun g' hg' ht => ?_
        have hC' : Ca n dy g' a := hC.keep (fun i q hi => hg' i q (cl_ne (Or.inl rfl) hi))
        have kr' : Kr g g' := fun i q hi => hg' i q (by omega)
        have emsr : msr (up2 a 53 0 0) (a 60 r) 60 x (1, 0, 0) = msr a (a 60 r) 60 x (1, 0, 0) := by
          have e : ∀ (f k : Nat) (t : Int × Int × Int), msr (up2 a 53 0 0) (a 60 r) f k t = msr a (a 60 r) f k t := by
            intro f
            induction f with
            | zero => intro k t; rfl
            | succ f ih =>
              intro k t
              show (if a 60 k < 0 ∨ a 60 k = a 60 r then t else msr (up2 a 53 0 0) (a 60 r) f (a 60 k).toNat _) = if a 60 k < 0 ∨ a 60 k = a 60 r then t else msr a (a 60 r) f (a 60 k).toNat _
              rw [ih]; rfl
          exact e 60 x (1, 0, 0)
        generalize hT : msr a (a 60 r) 60 x (1, 0, 0) = T at *
        have eop : opReach (up2 a 53 0 0) (x : Int) (r : Int) x3 = if T.1 = 0 then (-1, up2 (up2 a 53 0 0) 53 0 9) else (if x3 = 0 then max 0 (2 * T.2.2 - T.2.1) else T.2.1, up2 a 53 0 0) := by
          unfold opReach
          refine (if_neg g1).trans ((if_neg g2).trans ((if_neg g3).trans ?_))
          show (if (msr (up2 a 53 0 0) (a 60 r) 60 x (1, 0, 0)).1 = 0 then _ else (if x3 = 0 then max 0 (2 * (msr (up2 a 53 0 0) (a 60 r) 60 x (1, 0, 0)).2.2 - (msr (up2 a 53 0 0) (a 60 r) 60 x (1, 0, 0)).2.1) else (msr (up2 a 53 0 0) (a 60 r) 60 x (1, 0, 0)).2.1, _)) = _
          rw [emsr]
        rw [eop] at h
        clear eop emsr g1 g2 g3
        refine bX11_reach_79 hn ⟨fun q => ?_, fun q => ?_⟩
        · rw [if_neg (by rw [← ht.1]; exact q)] at h
          refine ⟨h3, fun q3 => ?_, fun q3 => ?_⟩
          · have e0 : (up2 g' 1 3 0) 9 0 = T.2.1 := ht.2.1
            have e1 : (up2 g' 1 3 0) 9 1 = T.2.2 := ht.2.2
            refine wX7_least hn ⟨span_ob hn (Or.inl rfl), ?_, bX11_reach_122 hn ?_⟩
            · rw [e0, e1]; exact ⟨by omega, by omega⟩
            · rw [e0, e1]
              rw [if_pos q3] at h
              exact h _ _ _ rfl (hC'.st 0) (kr'.up (by omega))
          · rw [ht.2.1]
            rw [if_neg q3] at h
            exact bX11_reach_122 hn (h _ _ _ rfl (hC'.st 0) (kr'.up (by omega)))
        · rw [if_pos (by rw [← ht.1]; exact q)] at h
          exact wX11_none hn ⟨by decide, bX11_reach_95 hn (h _ _ _ rfl (hC'.st2 0 9) (kr'.up (by omega)))⟩
    · refine bX11_reach_35 hn ⟨fun q => absurd q (Nat.lt_irrefl 0), fun _ => wX11_none hn ⟨by decide, bX11_reach_47 hn (h _ _ _ ?_ (hC.st2 0 5) (kr 5))⟩⟩
      unfold opReach; exact (if_neg g1).trans (if_pos (show a 57 r ≠ 2 ∧ a 57 r ≠ 3 by omega))
end Reach
