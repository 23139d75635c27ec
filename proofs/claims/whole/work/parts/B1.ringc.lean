/-! THE CLASS'S RING -/
def RC (g : Hp) (m : Nat) : Prop := g 6 2 = (m : Int) ∧ (3 ≤ m ∧ m ≤ 8) ∧ ∀ q : Nat, q < m → (-1000 ≤ g 7 q ∧ g 7 q ≤ 1000) ∧ (-1000 ≤ g 8 q ∧ g 8 q ≤ 1000)
theorem tn_b {x y : Nat → Int} {a b c : Nat} (hx : ∀ q, (q = a ∨ q = b ∨ q = c) → (-1000 ≤ x q ∧ x q ≤ 1000) ∧ (-1000 ≤ y q ∧ y q ≤ 1000)) : (tn x y a b c).natAbs ≤ 8000000 := by
  have xa := hx a (Or.inl rfl)
  have xb := hx b (Or.inr (Or.inl rfl))
  have xc := hx c (Or.inr (Or.inr rfl))
  have p1 := pb (x := x b - x a) (y := y c - y a) (A := 2000) (B := 2000) (by omega) (by omega)
  have p2 := pb (x := y b - y a) (y := x c - x a) (A := 2000) (B := 2000) (by omega) (by omega)
  unfold tn
  omega
section RingC
variable {d n m : Nat} {dy : Nat → Shp} {g a G : Hp} {P : Pst}
theorem cs_next {i : Nat} (hn : 100 ≤ n) (hR : RC g m) (hi : i < m) (h : P (some (I_ ((nx_ m i : Nat) : Int))) n (W0 dy) g) : Runs miX5_next d [.ref 6, I_ (i : Int)] n (W0 dy) g P := by
  obtain ⟨e, hm, -⟩ := hR
  refine wX5_next hn ⟨⟨by omega, by omega⟩, fun c => ?_, fun c => ?_⟩
  · have e0 : nx_ m i = 0 := if_neg (by omega)
    rw [e0] at h; exact h
  · have e0 : nx_ m i = i + 1 := if_pos (by omega)
    rw [e0] at h; exact h
theorem cs_turnR {i j k : Nat} (hn : 100 ≤ n) (hR : RC g m) (hi : i < m) (hj : j < m) (hk : k < m) (h : P (some (I_ (sgV (tn (g 7) (g 8) i j k)))) n (W0 dy) g) : Runs miX5_turn (d + 1) [.ref 6, I_ (i : Int), I_ (j : Int), I_ (k : Int)] n (W0 dy) g P := by
  obtain ⟨e, hm, hb⟩ := hR
  have tb := tn_b (x := g 7) (y := g 8) (a := i) (b := j) (c := k) (fun q hq => hb q (by omega))
  refine wX5_turn hn ⟨⟨by omega, by omega⟩, ⟨by omega, by omega⟩, ⟨by omega, by omega⟩, ?_⟩
  show Runs miJ6_compare_7cf53 d [I_ (tn (g 7) (g 8) i j k), I_ 0] n (W0 dy) g _
  generalize tn (g 7) (g 8) i j k = T at tb h ⊢
  unfold sgV at h
  refine wJ6_compare_7cf53 hn ⟨⟨by omega, by omega⟩, by decide, fun c => ⟨fun c2 => bX5_turn_59 hn ?_, fun c2 => bX5_turn_59 hn ?_⟩, fun c => bX5_turn_59 hn ?_⟩
  · rw [if_neg (by omega), if_pos (by omega)] at h; exact h
  · rw [if_neg (by omega), if_neg (by omega)] at h; exact h
  · rw [if_pos c] at h; exact h
theorem cs_inBox {i j k : Nat} (hn : 100 ≤ n) (hR : RC g m) (hi : i < m) (hj : j < m) (hk : k < m) (h0 : ¬ inB (g 7) (g 8) i j k → P (some (I_ 0)) n (W0 dy) g) (h1 : inB (g 7) (g 8) i j k → P (some (I_ 1)) n (W0 dy) g) : Runs miX5_isInBox (d + 1) [.ref 6, I_ (i : Int), I_ (j : Int), I_ (k : Int)] n (W0 dy) g P := by
  obtain ⟨e, hm, hb⟩ := hR
  unfold inB at h0 h1
  refine wX5_isInBox hn ⟨⟨by omega, by omega⟩, ⟨by omega, by omega⟩, ⟨by omega, by omega⟩, fun c => h0 fun z => ?_, fun c1 => ⟨fun c => h0 fun z => ?_, fun c2 => ⟨fun c => h0 fun z => ?_, fun c3 => ⟨fun c => h0 fun z => ?_, fun c4 => h1 ⟨⟨c1, c2⟩, ⟨c3, c4⟩⟩⟩⟩⟩⟩
  · have c : g 7 k < min (g 7 i) (g 7 j) := c
    omega
  · have c : max (g 7 i) (g 7 j) < g 7 k := c
    omega
  · have c : g 8 k < min (g 8 i) (g 8 j) := c
    omega
  · have c : max (g 8 i) (g 8 j) < g 8 k := c
    omega
theorem cs_fold {i : Nat} (hn : 100 ≤ n) (hR : RC g m) (hi : i < m) (h0 : ¬ fldR (g 7) (g 8) i (nx_ m i) (nx_ m (nx_ m i)) → P (some (I_ 0)) n (W0 dy) g) (h1 : fldR (g 7) (g 8) i (nx_ m i) (nx_ m (nx_ m i)) → P (some (I_ 1)) n (W0 dy) g) : Runs miX5_foldsBackAfter (d + 2) [.ref 6, I_ (i : Int)] n (W0 dy) g P := by
  have l1 := nx_lt hi
  have l2 := nx_lt l1
  have hb := hR.2.2
  have hm := hR.2.1
  refine wX5_foldsBackAfter hn (cs_next hn hR hi (bX5_foldsBackAfter_5 hn (cs_next hn hR l1 (bX5_foldsBackAfter_11 hn ⟨⟨by omega, by omega⟩, ⟨by omega, by omega⟩, ⟨by omega, by omega⟩, fun y ey => ?_⟩))))
  have ey : y = (g 7 (nx_ m i) - g 7 i) * (g 7 (nx_ m (nx_ m i)) - g 7 (nx_ m i)) + (g 8 (nx_ m i) - g 8 i) * (g 8 (nx_ m (nx_ m i)) - g 8 (nx_ m i)) := ey
  have b0 := hb i hi
  have b1 := hb _ l1
  have b2 := hb _ l2
  have p1 := pb (x := g 7 (nx_ m i) - g 7 i) (y := g 7 (nx_ m (nx_ m i)) - g 7 (nx_ m i)) (A := 2000) (B := 2000) (by omega) (by omega)
  have p2 := pb (x := g 8 (nx_ m i) - g 8 i) (y := g 8 (nx_ m (nx_ m i)) - g 8 (nx_ m i)) (A := 2000) (B := 2000) (by omega) (by omega)
  refine cs_turnR hn hR hi l1 l2 (bX5_foldsBackAfter_76 hn ?_)
  have so := sgV_or (tn (g 7) (g 8) i (nx_ m i) (nx_ m (nx_ m i)))
  refine ⟨by omega, fun c => h0 fun z => c ?_, fun c => ⟨by omega, fun c2 => h0 fun z => ?_, fun c2 => h1 ⟨by omega, by rw [← ey]; exact c2⟩⟩⟩
  · rcases so with ⟨s1, s2⟩ | ⟨s1, s2⟩ | ⟨s1, s2⟩
    · have := z.1; omega
    · exact s1
    · have := z.1; omega
  · have := z.2
    rw [← ey] at this; omega
theorem cs_meet {i j : Nat} (hn : 100 ≤ n) (hR : RC g m) (hi : i < m) (hj : j < m) (h0 : ¬ tch2 (g 7) (g 8) i (nx_ m i) j (nx_ m j) → P (some (I_ 0)) n (W0 dy) g) (h1 : tch2 (g 7) (g 8) i (nx_ m i) j (nx_ m j) → P (some (I_ 1)) n (W0 dy) g) : Runs miX5_doSidesMeet (d + 2) [.ref 6, I_ (i : Int), I_ (j : Int)] n (W0 dy) g P := by
  have l1 := nx_lt hi
  have l2 := nx_lt hj
  refine wX5_doSidesMeet hn (cs_next hn hR hi (bX5_doSidesMeet_7 hn (cs_next hn hR hj (bX5_doSidesMeet_17 hn (cs_turnR hn hR hi l1 hj (bX5_doSidesMeet_28 hn (cs_turnR hn hR hi l1 l2 (bX5_doSidesMeet_39 hn (cs_turnR hn hR hj l2 hi (bX5_doSidesMeet_50 hn (cs_turnR hn hR hj l2 l1 ?_)))))))))))
  have n1 := sgV_neg (tn (g 7) (g 8) i (nx_ m i) j) (tn (g 7) (g 8) i (nx_ m i) (nx_ m j))
  have n2 := sgV_neg (tn (g 7) (g 8) j (nx_ m j) i) (tn (g 7) (g 8) j (nx_ m j) (nx_ m i))
  have oc := sgV_or (tn (g 7) (g 8) i (nx_ m i) j)
  have od := sgV_or (tn (g 7) (g 8) i (nx_ m i) (nx_ m j))
  have oa := sgV_or (tn (g 7) (g 8) j (nx_ m j) i)
  have ob := sgV_or (tn (g 7) (g 8) j (nx_ m j) (nx_ m i))
  unfold tch2 onS at h0 h1
  generalize tn (g 7) (g 8) i (nx_ m i) j = tc at *
  generalize tn (g 7) (g 8) i (nx_ m i) (nx_ m j) = td at *
  generalize tn (g 7) (g 8) j (nx_ m j) i = ta at *
  generalize tn (g 7) (g 8) j (nx_ m j) (nx_ m i) = tb at *
  have zc : sgV tc = 0 ↔ tc = 0 := by rcases oc with z | z | z <;> omega
  have zd : sgV td = 0 ↔ td = 0 := by rcases od with z | z | z <;> omega
  have za : sgV ta = 0 ↔ ta = 0 := by rcases oa with z | z | z <;> omega
  have zb : sgV tb = 0 ↔ tb = 0 := by rcases ob with z | z | z <;> omega
  have ic : i3 (sgV tc) := by rcases oc with z | z | z <;> exact ⟨by omega, by omega⟩
  have id : i3 (sgV td) := by rcases od with z | z | z <;> exact ⟨by omega, by omega⟩
  have ia : i3 (sgV ta) := by rcases oa with z | z | z <;> exact ⟨by omega, by omega⟩
  have ib : i3 (sgV tb) := by rcases ob with z | z | z <;> exact ⟨by omega, by omega⟩
  have icd : i3 (sgV tc * sgV td) := by
    have := pb (x := sgV tc) (y := sgV td) (A := 1) (B := 1) (by rcases oc with z | z | z <;> omega) (by rcases od with z | z | z <;> omega)
    exact ⟨by omega, by omega⟩
  have iab : i3 (sgV ta * sgV tb) := by
    have := pb (x := sgV ta) (y := sgV tb) (A := 1) (B := 1) (by rcases oa with z | z | z <;> omega) (by rcases ob with z | z | z <;> omega)
    exact ⟨by omega, by omega⟩
  clear oc od oa ob
  -- from behind
  have s148 : tb = 0 → ¬ (tc * td < 0 ∧ ta * tb < 0) → ¬ (inB (g 7) (g 8) i (nx_ m i) j ∧ tc = 0) → ¬ (inB (g 7) (g 8) i (nx_ m i) (nx_ m j) ∧ td = 0) → ¬ (inB (g 7) (g 8) j (nx_ m j) i ∧ ta = 0) → Runs miX5_isInBox (d + 1) [.ref 6, I_ (j : Int), I_ ((nx_ m j : Nat) : Int), I_ ((nx_ m i : Nat) : Int)] n (W0 dy) g (fun v n' S' g' => V miX5_doSidesMeet (d + 2) 148 [(0, .ref 6), (1, I_ (i : Int)), (2, I_ (j : Int)), (3, I_ (i : Int)), (4, I_ ((nx_ m i : Nat) : Int)), (5, I_ (j : Int)), (6, I_ ((nx_ m j : Nat) : Int)), (7, I_ (sgV tc)), (8, I_ (sgV td)), (9, I_ (sgV ta)), (10, I_ (sgV tb))] (v.toList ++ []) n' S' g' 0 0 P) := fun e np n1 n2 n3 => by
    refine cs_inBox hn hR hj l2 l1 (fun c => bX5_doSidesMeet_148 hn ⟨by decide, fun _ => h0 ?_, fun q => absurd rfl q⟩) (fun c => bX5_doSidesMeet_148 hn ⟨by decide, fun q => absurd q (by decide), fun _ => h1 (Or.inl (Or.inr (Or.inr (Or.inr ⟨c, e⟩))))⟩)
    rintro ((q | q | q | q) | q)
    · exact n1 q
    · exact n2 q
    · exact n3 q
    · exact c q.1
    · exact np q
  have sB : ¬ (tc * td < 0 ∧ ta * tb < 0) → ¬ (inB (g 7) (g 8) i (nx_ m i) j ∧ tc = 0) → ¬ (inB (g 7) (g 8) i (nx_ m i) (nx_ m j) ∧ td = 0) → ¬ (inB (g 7) (g 8) j (nx_ m j) i ∧ ta = 0) → sgV tb ≠ 0 → P (some (I_ 0)) n (W0 dy) g := fun np n1 n2 n3 c => by
    refine h0 ?_
    rintro ((q | q | q | q) | q)
    · exact n1 q
    · exact n2 q
    · exact n3 q
    · exact c (zb.mpr q.2)
    · exact np q
  have s130 : ta = 0 → ¬ (tc * td < 0 ∧ ta * tb < 0) → ¬ (inB (g 7) (g 8) i (nx_ m i) j ∧ tc = 0) → ¬ (inB (g 7) (g 8) i (nx_ m i) (nx_ m j) ∧ td = 0) → Runs miX5_isInBox (d + 1) [.ref 6, I_ (j : Int), I_ ((nx_ m j : Nat) : Int), I_ (i : Int)] n (W0 dy) g (fun v n' S' g' => V miX5_doSidesMeet (d + 2) 130 [(0, .ref 6), (1, I_ (i : Int)), (2, I_ (j : Int)), (3, I_ (i : Int)), (4, I_ ((nx_ m i : Nat) : Int)), (5, I_ (j : Int)), (6, I_ ((nx_ m j : Nat) : Int)), (7, I_ (sgV tc)), (8, I_ (sgV td)), (9, I_ (sgV ta)), (10, I_ (sgV tb))] (v.toList ++ []) n' S' g' 0 0 P) := fun e np n1 n2 => by
    refine cs_inBox hn hR hj l2 hi (fun c => bX5_doSidesMeet_130 hn ⟨by decide, fun q => absurd rfl q, fun _ => ⟨ib, fun q => sB np n1 n2 (fun z => c z.1) q, fun q => s148 (zb.mp q) np n1 n2 (fun z => c z.1)⟩⟩) (fun c => bX5_doSidesMeet_130 hn ⟨by decide, fun _ => h1 (Or.inl (Or.inr (Or.inr (Or.inl ⟨c, e⟩)))), fun q => absurd q (by decide)⟩)
  have sA : ¬ (tc * td < 0 ∧ ta * tb < 0) → ¬ (inB (g 7) (g 8) i (nx_ m i) j ∧ tc = 0) → ¬ (inB (g 7) (g 8) i (nx_ m i) (nx_ m j) ∧ td = 0) → (i3 (sgV ta)) ∧ ((sgV ta ≠ 0) → (i3 (sgV tb)) ∧ ((sgV tb ≠ 0) → P (some (I_ 0)) n (W0 dy) g) ∧ ((sgV tb = 0) → Runs miX5_isInBox (d + 1) [.ref 6, I_ (j : Int), I_ ((nx_ m j : Nat) : Int), I_ ((nx_ m i : Nat) : Int)] n (W0 dy) g (fun v n' S' g' => V miX5_doSidesMeet (d + 2) 148 [(0, .ref 6), (1, I_ (i : Int)), (2, I_ (j : Int)), (3, I_ (i : Int)), (4, I_ ((nx_ m i : Nat) : Int)), (5, I_ (j : Int)), (6, I_ ((nx_ m j : Nat) : Int)), (7, I_ (sgV tc)), (8, I_ (sgV td)), (9, I_ (sgV ta)), (10, I_ (sgV tb))] (v.toList ++ []) n' S' g' 0 0 P))) ∧ ((sgV ta = 0) → Runs miX5_isInBox (d + 1) [.ref 6, I_ (j : Int), I_ ((nx_ m j : Nat) : Int), I_ (i : Int)] n (W0 dy) g (fun v n' S' g' => V miX5_doSidesMeet (d + 2) 130 [(0, .ref 6), (1, I_ (i : Int)), (2, I_ (j : Int)), (3, I_ (i : Int)), (4, I_ ((nx_ m i : Nat) : Int)), (5, I_ (j : Int)), (6, I_ ((nx_ m j : Nat) : Int)), (7, I_ (sgV tc)), (8, I_ (sgV td)), (9, I_ (sgV ta)), (10, I_ (sgV tb))] (v.toList ++ []) n' S' g' 0 0 P)) := fun np n1 n2 => ⟨ia, fun q => ⟨ib, fun q2 => sB np n1 n2 (fun z => q (za.mpr z.2)) q2, fun q2 => s148 (zb.mp q2) np n1 n2 (fun z => q (za.mpr z.2))⟩, fun q => s130 (za.mp q) np n1 n2⟩
  have s113 : td = 0 → ¬ (tc * td < 0 ∧ ta * tb < 0) → ¬ (inB (g 7) (g 8) i (nx_ m i) j ∧ tc = 0) → Runs miX5_isInBox (d + 1) [.ref 6, I_ (i : Int), I_ ((nx_ m i : Nat) : Int), I_ ((nx_ m j : Nat) : Int)] n (W0 dy) g (fun v n' S' g' => V miX5_doSidesMeet (d + 2) 113 [(0, .ref 6), (1, I_ (i : Int)), (2, I_ (j : Int)), (3, I_ (i : Int)), (4, I_ ((nx_ m i : Nat) : Int)), (5, I_ (j : Int)), (6, I_ ((nx_ m j : Nat) : Int)), (7, I_ (sgV tc)), (8, I_ (sgV td)), (9, I_ (sgV ta)), (10, I_ (sgV tb))] (v.toList ++ []) n' S' g' 0 0 P) := fun e np n1 => by
    refine cs_inBox hn hR hi l1 l2 (fun c => bX5_doSidesMeet_113 hn ⟨by decide, fun q => absurd rfl q, fun _ => sA np n1 (fun z => c z.1)⟩) (fun c => bX5_doSidesMeet_113 hn ⟨by decide, fun _ => h1 (Or.inl (Or.inr (Or.inl ⟨c, e⟩))), fun q => absurd q (by decide)⟩)
  have s96 : tc = 0 → ¬ (tc * td < 0 ∧ ta * tb < 0) → Runs miX5_isInBox (d + 1) [.ref 6, I_ (i : Int), I_ ((nx_ m i : Nat) : Int), I_ (j : Int)] n (W0 dy) g (fun v n' S' g' => V miX5_doSidesMeet (d + 2) 96 [(0, .ref 6), (1, I_ (i : Int)), (2, I_ (j : Int)), (3, I_ (i : Int)), (4, I_ ((nx_ m i : Nat) : Int)), (5, I_ (j : Int)), (6, I_ ((nx_ m j : Nat) : Int)), (7, I_ (sgV tc)), (8, I_ (sgV td)), (9, I_ (sgV ta)), (10, I_ (sgV tb))] (v.toList ++ []) n' S' g' 0 0 P) := fun e np => by
    refine cs_inBox hn hR hi l1 hj (fun c => bX5_doSidesMeet_96 hn ⟨by decide, fun q => absurd rfl q, fun _ => ⟨id, fun q => sA np (fun z => c z.1) (fun z => q (zd.mpr z.2)), fun q => s113 (zd.mp q) np (fun z => c z.1)⟩⟩) (fun c => bX5_doSidesMeet_96 hn ⟨by decide, fun _ => h1 (Or.inl (Or.inl ⟨c, e⟩)), fun q => absurd q (by decide)⟩)
  refine bX5_doSidesMeet_62 hn ⟨icd, fun q => ?_, fun q => ⟨iab, fun q2 => ?_, fun q2 => h1 (Or.inr ⟨n1.mp q, n2.mp q2⟩)⟩⟩
  · have np : ¬ (tc * td < 0 ∧ ta * tb < 0) := fun z => by have := n1.mpr z.1; omega
    exact ⟨ic, fun q2 => ⟨id, fun q3 => sA np (fun z => q2 (zc.mpr z.2)) (fun z => q3 (zd.mpr z.2)), fun q3 => s113 (zd.mp q3) np (fun z => q2 (zc.mpr z.2))⟩, fun q2 => s96 (zc.mp q2) np⟩
  · have np : ¬ (tc * td < 0 ∧ ta * tb < 0) := fun z => by have := n2.mpr z.2; omega
    exact ⟨ic, fun q2 => ⟨id, fun q3 => sA np (fun z => q2 (zc.mpr z.2)) (fun z => q3 (zd.mpr z.2)), fun q3 => s113 (zd.mp q3) np (fun z => q2 (zc.mpr z.2))⟩, fun q2 => s96 (zc.mp q2) np⟩
theorem cs_touches (hn : 100 ≤ n) (hR : RC g m) (h0 : RG m (g 7) (g 8) → P (some (I_ 0)) n (W0 dy) g) (h1 : ¬ RG m (g 7) (g 8) → P (some (I_ 1)) n (W0 dy) g) : Runs miX5_touchesItself (d + 3) [.ref 6] n (W0 dy) g P := by
  have e6 := hR.1
  have hm := hR.2.1
  rw [rg_cls] at h0 h1
  have key : ∀ (f i : Nat), i + f = m → (∀ k, k < i → ¬ fldR (g 7) (g 8) k (nx_ m k) (nx_ m (nx_ m k)) ∧ ∀ j, k + 2 ≤ j → j < m → nx_ m j ≠ k → ¬ tch2 (g 7) (g 8) k (nx_ m k) j (nx_ m j)) → V miX5_touchesItself (d + 3) 2 [(0, .ref 6), (1, I_ (i : Int))] [] n (W0 dy) g 0 0 P := by
    intro f
    induction f with
    | zero =>
      intro i hi hp
      refine bX5_touchesItself_2 hn ⟨⟨by omega, by omega⟩, fun _ => h0 fun k hk => hp k (by omega), fun q => by omega⟩
    | succ f ih =>
      intro i hi hp
      have li : i < m := by omega
      refine bX5_touchesItself_2 hn ⟨⟨by omega, by omega⟩, fun q => by omega, fun _ => cs_fold hn hR li (fun c => ?_) (fun c => ?_)⟩
      · refine bX5_touchesItself_15 hn ⟨by decide, fun _ => ?_, fun q => absurd rfl q⟩
        have inner : ∀ (u j : Nat), j + u = m ∨ (u = 0 ∧ m ≤ j ∧ j ≤ m + 2) → i + 2 ≤ j → (∀ j', i + 2 ≤ j' → j' < j → j' < m → nx_ m j' ≠ i → ¬ tch2 (g 7) (g 8) i (nx_ m i) j' (nx_ m j')) → V miX5_touchesItself (d + 3) 24 [(0, .ref 6), (1, I_ (i : Int)), (2, I_ (j : Int))] [] n (W0 dy) g 0 0 P := by
          intro u
          induction u with
          | zero =>
            intro j hj hij hq
            refine bX5_touchesItself_24 hn ⟨⟨by omega, by omega⟩, fun _ => ?_, fun q => by omega⟩
            refine ih (i + 1) (by omega) fun k hk => ?_
            by_cases e : k = i
            · rw [e]; exact ⟨c, fun j' a1 a2 a3 => hq j' a1 (by omega) a2 a3⟩
            · exact hp k (by omega)
          | succ u ihu =>
            intro j hj hij hq
            have lj : j < m := by omega
            have nxt : (nx_ m j ≠ i → ¬ tch2 (g 7) (g 8) i (nx_ m i) j (nx_ m j)) → V miX5_touchesItself (d + 3) 24 [(0, .ref 6), (1, I_ (i : Int)), (2, I_ ((j : Int) + 1))] [] n (W0 dy) g 0 0 P := fun z => by
              refine ihu (j + 1) (by omega) (by omega) fun j' a1 a2 a3 a4 => ?_
              by_cases e : j' = j
              · rw [e] at a4 ⊢; exact z a4
              · exact hq j' a1 (by omega) a3 a4
            refine bX5_touchesItself_24 hn ⟨⟨by omega, by omega⟩, fun q => by omega, fun _ => cs_next hn hR lj ?_⟩
            have l2 := nx_lt lj
            refine bX5_touchesItself_37 hn ⟨⟨by omega, by omega⟩, ⟨by omega, by omega⟩, fun q => nxt fun z => absurd (show nx_ m j = i by omega) z, fun q => cs_meet hn hR li lj (fun c2 => ?_) (fun c2 => ?_)⟩
            · exact bX5_touchesItself_47 hn ⟨by decide, fun _ => nxt fun _ => c2, fun q => absurd rfl q⟩
            · exact bX5_touchesItself_47 hn ⟨by decide, fun q => absurd q (by decide), fun _ => h1 fun z => (z i li).2 j hij lj (fun e => q (by rw [e])) c2⟩
        exact inner (m - (i + 2)) (i + 2) (by omega) (by omega) (fun j' a1 a2 => by omega)
      · exact bX5_touchesItself_15 hn ⟨by decide, fun q => absurd q (by decide), fun _ => h1 fun z => (z i li).1 c⟩
  exact wX5_touchesItself hn (key m 0 (by omega) (fun k hk => by omega))
end RingC
