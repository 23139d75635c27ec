/-! CLEAR: the search in the abstract -/
def inc (m : Nat → Int) (c : Nat) : Nat → Int := fun y => if y = c then m y + 1 else m y
abbrev Srch : Type := Int × Nat × (Nat → Int)
def okT (a : Hp) (H : List Nat) (m : Nat → Int) : Bool := H.all fun h => decide (a 62 h + m h ≤ 1000)
def leaf (a : Hp) (H : List Nat) (L : List (Nat × Nat)) (m : Nat → Int) (t : Nat) : Srch :=
  if okT a H m = true then (if 20000 ≤ t then (2, t, m) else if cntP (hgtm a m) L = 0 then (1, t + 1, m) else (0, t + 1, m)) else (0, t, m)
/-- f bounds the steps; hs: the parts whose threads may still be lengthened; s: by how much in all -/
def RS (a : Hp) (H : List Nat) (L : List (Nat × Nat)) : Nat → List Nat → Nat → (Nat → Int) → Nat → Srch
  | 0, _, _, m, t => (0, t, m)
  | _ + 1, _, 0, m, t => leaf a H L m t
  | _ + 1, [], _ + 1, m, t => (0, t, m)
  | f + 1, h :: hs, s + 1, m, t => if (RS a H L f (h :: hs) s (inc m h) t).1 = 0 then RS a H L f hs (s + 1) m (RS a H L f (h :: hs) s (inc m h) t).2.1 else RS a H L f (h :: hs) s (inc m h) t
theorem okT_t {a : Hp} {H : List Nat} {m : Nat → Int} : okT a H m = true ↔ ∀ h, h ∈ H → a 62 h + m h ≤ 1000 := by
  unfold okT
  rw [List.all_eq_true]
  exact ⟨fun h x hx => of_decide_eq_true (h x hx), fun h x hx => decide_eq_true (h x hx)⟩
theorem RS_bad {a : Hp} {H : List Nat} {L : List (Nat × Nat)} : ∀ (f : Nat) (hs : List Nat) (s : Nat) (m : Nat → Int) (t : Nat), (∃ h, h ∈ H ∧ 1000 < a 62 h + m h) → (RS a H L f hs s m t).1 = 0 ∧ (RS a H L f hs s m t).2.1 = t
  | 0, _, _, _, _, _ => ⟨rfl, rfl⟩
  | _ + 1, _, 0, m, t, hb => by
    obtain ⟨h, h1, h2⟩ := hb
    have e : ¬ okT a H m = true := fun z => by have := okT_t.mp z h h1; omega
    show (leaf a H L m t).1 = 0 ∧ (leaf a H L m t).2.1 = t
    unfold leaf
    rw [if_neg e]; exact ⟨rfl, rfl⟩
  | _ + 1, [], _ + 1, _, _, _ => ⟨rfl, rfl⟩
  | f + 1, h :: hs, s + 1, m, t, hb => by
    have hb2 : ∃ x, x ∈ H ∧ 1000 < a 62 x + inc m h x := by
      obtain ⟨x, x1, x2⟩ := hb
      refine ⟨x, x1, ?_⟩
      unfold inc
      split <;> omega
    have e1 := RS_bad (L := L) f (h :: hs) s (inc m h) t hb2
    have un : RS a H L (f + 1) (h :: hs) (s + 1) m t = if (RS a H L f (h :: hs) s (inc m h) t).1 = 0 then RS a H L f hs (s + 1) m (RS a H L f (h :: hs) s (inc m h) t).2.1 else RS a H L f (h :: hs) s (inc m h) t := rfl
    rw [un, if_pos e1.1, e1.2]
    exact RS_bad f hs (s + 1) m t hb
/-- the parts whose threads can be lengthened -/
def hgs (a : Hp) (k : Nat) : Nat → List Nat
  | 0 => []
  | m + 1 => if abv (a 60) k 60 m = true ∧ 0 ≤ a 60 m ∧ a 62 m < 1000 then hgs a k m ++ [m] else hgs a k m
theorem hgs_in {a : Hp} {k y : Nat} : ∀ m : Nat, y ∈ hgs a k m ↔ (y < m ∧ abv (a 60) k 60 y = true ∧ 0 ≤ a 60 y ∧ a 62 y < 1000)
  | 0 => ⟨fun h => by simp [hgs] at h, fun h => by omega⟩
  | m + 1 => by
    have ih := hgs_in (a := a) (k := k) (y := y) m
    unfold hgs
    by_cases c : abv (a 60) k 60 m = true ∧ 0 ≤ a 60 m ∧ a 62 m < 1000
    · rw [if_pos c, List.mem_append, ih, List.mem_singleton]
      constructor
      · rintro (z | z)
        · exact ⟨by omega, z.2⟩
        · rw [z]; exact ⟨Nat.lt_succ_self m, c⟩
      · intro z
        by_cases e : y = m
        · exact Or.inr e
        · exact Or.inl ⟨by omega, z.2⟩
    · rw [if_neg c, ih]
      constructor
      · intro z; exact ⟨by omega, z.2⟩
      · intro z
        refine ⟨?_, z.2⟩
        by_cases e : y = m
        · rw [e] at z; exact absurd z.2 c
        · omega
theorem hgs_nd {a : Hp} {k : Nat} : ∀ m : Nat, (hgs a k m).Nodup ∧ (hgs a k m).length ≤ m
  | 0 => ⟨List.nodup_nil, Nat.le_refl _⟩
  | m + 1 => by
    obtain ⟨h1, h2⟩ := hgs_nd (a := a) (k := k) m
    unfold hgs
    split
    · refine ⟨nodup_app h1 fun z => ?_, ?_⟩
      · have := ((hgs_in m).mp z).1; omega
      · rw [List.length_append]; show _ + 1 ≤ _; omega
    · exact ⟨h1, by omega⟩
section Search
variable {a : Hp}
theorem hgtm_eq (hI : Inv a) (m : Nat → Int) {y : Nat} (hy : (y : Int) < a 53 5) : hgtm a m y = if a 60 y < 0 then 0 else a 62 y + m y + hgtm a m (a 60 y).toNat := by
  obtain ⟨dp, hD⟩ := hI.dp
  exact hgt_eq hD hI.1.2 hy
theorem hgtm_inc (hI : Inv a) {m : Nat → Int} {c : Nat} (hc : (c : Int) < a 53 5) (hc0 : 0 ≤ a 60 c) {dp : Nat → Nat} (hD : DP (a 53 5) (a 60) dp) : ∀ f x : Nat, dp x = f → (x : Int) < a 53 5 → hgtm a (inc m c) x = hgtm a m x + (if abv (a 60) c 60 x = true then 1 else 0) := by
  intro f
  induction f with
  | zero =>
    intro x hf hx
    have z : a 60 x < 0 := by
      by_cases z : a 60 x < 0
      · exact z
      · have := (hD x hx).2.2.2 (by omega); omega
    have ne : x ≠ c := fun e => by rw [e] at z; omega
    rw [hgtm_eq hI _ hx, hgtm_eq hI _ hx, if_pos z, if_pos z, abv_eq hD hI.1.2 hx, if_neg ne, if_pos z]
    rfl
  | succ f ih =>
    intro x hf hx
    have z : ¬ a 60 x < 0 := fun z => by have := (hD x hx).2.2.1 z; omega
    have h3 := (hD x hx).2.2.2 (by omega)
    have h1 := (hD x hx).1
    have e := ih (a 60 x).toNat (by omega) (by omega)
    rw [hgtm_eq hI _ hx, hgtm_eq hI m hx, if_neg z, if_neg z, e, abv_eq hD hI.1.2 hx, if_neg z]
    by_cases xc : x = c
    · have na : ¬ abv (a 60) c 60 (a 60 x).toNat = true := fun w => by
        have ne : (a 60 x).toNat ≠ c := fun e => by rw [e, ← xc] at h3; omega
        have := (abv_dp hD hI.1.2 _ _ rfl (by omega) w ne).1
        rw [← xc] at this; omega
      rw [if_neg na, if_pos xc]
      unfold inc
      rw [if_pos xc, if_pos rfl]; omega
    · rw [if_neg xc]
      unfold inc
      rw [if_neg xc]; omega
theorem sumN_le {f h : Nat → Int} : ∀ n, (∀ y, y < n → f y ≤ h y) → sumN f n ≤ sumN h n
  | 0, _ => Int.le_refl _
  | n + 1, e => by
    have h1 := sumN_le n (fun y hy => e y (by omega))
    have h2 := e n (by omega)
    show sumN f n + f n ≤ sumN h n + h n
    omega
theorem sumN_comm (f : Nat → Nat → Int) (n : Nat) : ∀ m, sumN (fun x => sumN (fun y => f x y) n) m = sumN (fun y => sumN (fun x => f x y) m) n
  | 0 => (sumN_zero n).symm
  | m + 1 => by
    show sumN (fun x => sumN (fun y => f x y) n) m + sumN (fun y => f m y) n = sumN (fun y => sumN (fun x => f x y) m + f m y) n
    rw [sumN_comm f n m, sumN_add]
/-- a mobile has at most 30 weights -/
theorem wt30 (hI : Inv a) {k : Nat} : sumN (fun y => if Wt a k y then 1 else 0) (a 53 5).toNat ≤ 30 := by
  have hN := hI.1
  obtain ⟨dp, hD⟩ := hI.dp
  generalize hn : (a 53 5).toNat = N
  -- members, rods
  have e1 : sumN (fun y => if Wt a k y then 1 else 0) N + sumN (fun y => if abv (a 60) k 60 y = true ∧ (a 57 y = 2 ∨ a 57 y = 3) then 1 else 0) N ≤ sumN (fun y => if abv (a 60) k 60 y = true then 1 else 0) N := by
    rw [← sumN_add]
    refine sumN_le N fun y _ => ?_
    show (if Wt a k y then (1 : Int) else 0) + (if abv (a 60) k 60 y = true ∧ (a 57 y = 2 ∨ a 57 y = 3) then 1 else 0) ≤ if abv (a 60) k 60 y = true then 1 else 0
    by_cases c : abv (a 60) k 60 y = true
    · rw [if_pos c]
      by_cases w : a 57 y = 1
      · rw [if_pos ⟨c, w⟩, if_neg (fun z => by have := z.2; omega)]; omega
      · rw [if_neg (fun z => w z.2)]
        split <;> omega
    · rw [if_neg c, if_neg (fun z => c z.1), if_neg (fun z => c z.1)]; omega
  have e2 : sumN (fun y => if abv (a 60) k 60 y = true then 1 else 0) N ≤ sumN (fun y => if y = k then 1 else 0) N + sumN (fun y => sumN (fun r => if (abv (a 60) k 60 r = true ∧ (a 57 r = 2 ∨ a 57 r = 3)) ∧ a 60 y = (r : Int) then 1 else 0) N) N := by
    rw [← sumN_add]
    refine sumN_le N fun y hy => ?_
    show (if abv (a 60) k 60 y = true then (1 : Int) else 0) ≤ (if y = k then 1 else 0) + sumN (fun r => if (abv (a 60) k 60 r = true ∧ (a 57 r = 2 ∨ a 57 r = 3)) ∧ a 60 y = (r : Int) then 1 else 0) N
    have nn : 0 ≤ sumN (fun r => if (abv (a 60) k 60 r = true ∧ (a 57 r = 2 ∨ a 57 r = 3)) ∧ a 60 y = (r : Int) then 1 else 0) N := (sumN_b (B := 1) N (fun r _ => by show (0 : Int) ≤ (if _ then 1 else 0) ∧ (if _ then (1 : Int) else 0) ≤ 1; split <;> omega)).1
    by_cases c : abv (a 60) k 60 y = true
    · rw [if_pos c]
      by_cases e : y = k
      · rw [if_pos e]; omega
      · rw [if_neg e]
        have hyN : (y : Int) < a 53 5 := by omega
        obtain ⟨b1, b2, b3⟩ := abv_dp hD hN.2 _ y rfl hyN c e
        have rod := ((hI.2.2.1 y hyN).1.2.2.1 b2).2.1
        have hon := (hD y hyN).1
        have := sumN_le (f := fun r => if r = (a 60 y).toNat then 1 else 0) (h := fun r => if (abv (a 60) k 60 r = true ∧ (a 57 r = 2 ∨ a 57 r = 3)) ∧ a 60 y = (r : Int) then 1 else 0) N (fun r _ => by
          show (if r = (a 60 y).toNat then (1 : Int) else 0) ≤ if (abv (a 60) k 60 r = true ∧ (a 57 r = 2 ∨ a 57 r = 3)) ∧ a 60 y = (r : Int) then 1 else 0
          by_cases z : r = (a 60 y).toNat
          · rw [if_pos z, if_pos ⟨by rw [z]; exact ⟨b3, rod⟩, by omega⟩]; omega
          · rw [if_neg z]; split <;> omega)
        have one := sumN_one (fun _ => 1) (a 60 y).toNat N
        rw [if_pos (by omega)] at one
        have one : sumN (fun r => if r = (a 60 y).toNat then 1 else 0) N = 1 := one
        omega
    · rw [if_neg c]
      split <;> omega
  rw [sumN_comm] at e2
  have e3 : sumN (fun r => sumN (fun y => if (abv (a 60) k 60 r = true ∧ (a 57 r = 2 ∨ a 57 r = 3)) ∧ a 60 y = (r : Int) then 1 else 0) N) N ≤ sumN (fun r => (if abv (a 60) k 60 r = true ∧ (a 57 r = 2 ∨ a 57 r = 3) then 1 else 0) + (if abv (a 60) k 60 r = true ∧ (a 57 r = 2 ∨ a 57 r = 3) then 1 else 0)) N := by
    refine sumN_le N fun r hr => ?_
    by_cases c : abv (a 60) k 60 r = true ∧ (a 57 r = 2 ∨ a 57 r = 3)
    · rw [if_pos c]
      have le : sumN (fun y => if (abv (a 60) k 60 r = true ∧ (a 57 r = 2 ∨ a 57 r = 3)) ∧ a 60 y = (r : Int) then 1 else 0) N ≤ sumN (fun y => (if y = (a 66 r).toNat then 1 else 0) + (if y = (a 67 r).toNat then 1 else 0)) N := by
        refine sumN_le N fun y hy => ?_
        show (if (abv (a 60) k 60 r = true ∧ (a 57 r = 2 ∨ a 57 r = 3)) ∧ a 60 y = (r : Int) then (1 : Int) else 0) ≤ (if y = (a 66 r).toNat then 1 else 0) + (if y = (a 67 r).toNat then 1 else 0)
        by_cases z : a 60 y = (r : Int)
        · have hyN : (y : Int) < a 53 5 := by omega
          have q := ((hI.2.2.1 y hyN).1.2.2.1 (by omega)).2.2
          rw [z] at q
          have q : (a 61 y = 0 ∧ a 66 r = (y : Int)) ∨ (a 61 y = 1 ∧ a 67 r = (y : Int)) := q
          rw [if_pos ⟨c, z⟩]
          rcases q with q | q
          · rw [if_pos (c := y = (a 66 r).toNat) (by omega)]; split <;> omega
          · rw [if_pos (c := y = (a 67 r).toNat) (by omega)]; split <;> omega
        · rw [if_neg (fun w => z w.2)]
          split <;> split <;> omega
      rw [sumN_add] at le
      have o1 := sumN_one (fun _ => 1) (a 66 r).toNat N
      have o2 := sumN_one (fun _ => 1) (a 67 r).toNat N
      have o1 : sumN (fun y => if y = (a 66 r).toNat then 1 else 0) N = if (a 66 r).toNat < N then 1 else 0 := o1
      have o2 : sumN (fun y => if y = (a 67 r).toNat then 1 else 0) N = if (a 67 r).toNat < N then 1 else 0 := o2
      rw [o1, o2] at le
      refine Int.le_trans le ?_
      split <;> split <;> omega
    · rw [if_neg c, sumN_cg N (h := fun _ => 0) (fun y _ => if_neg fun w => c w.1), sumN_zero]; omega
  rw [sumN_add] at e3
  have k1 : sumN (fun y => if y = k then 1 else 0) N ≤ 1 := by
    have := sumN_one (fun _ => 1) k N
    have : sumN (fun y => if y = k then 1 else 0) N = if k < N then 1 else 0 := this
    rw [this]; split <;> omega
  have m60 : sumN (fun y => if abv (a 60) k 60 y = true then 1 else 0) N ≤ 1 * N := (sumN_b (B := 1) N (fun r _ => by show (0 : Int) ≤ (if _ then 1 else 0) ∧ (if _ then (1 : Int) else 0) ≤ 1; split <;> omega)).2
  generalize sumN (fun y => if Wt a k y then 1 else 0) N = W at *
  generalize sumN (fun y => if abv (a 60) k 60 y = true ∧ (a 57 y = 2 ∨ a 57 y = 3) then 1 else 0) N = R at *
  generalize sumN (fun y => if abv (a 60) k 60 y = true then 1 else 0) N = M at *
  omega
theorem sumL_mulc (c : Int) (f : Nat → Int) : ∀ l : List Nat, sumL (fun y => c * f y) l = c * sumL f l
  | [] => (Int.mul_zero c).symm
  | y :: l => by
    show c * f y + sumL (fun y => c * f y) l = c * (f y + sumL f l)
    rw [sumL_mulc c f l, Int.mul_add]
theorem pairSum_w (w : Nat → Int) (hw : ∀ y, w y = 0 ∨ w y = 1) : ∀ l : List Nat, 2 * pairSum (fun x y => w x * w y) l = sumL w l * (sumL w l - 1)
  | [] => rfl
  | z :: l => by
    have ih := pairSum_w w hw l
    show 2 * (sumL (fun y => w z * w y) l + pairSum (fun x y => w x * w y) l) = (w z + sumL w l) * (w z + sumL w l - 1)
    rw [sumL_mulc]
    generalize pairSum (fun x y => w x * w y) l = p at *
    generalize sumL w l = S at *
    rcases hw z with e | e <;> rw [e] <;> grind
theorem sumL_le {f h : Nat → Int} (e : ∀ y, f y ≤ h y) : ∀ l : List Nat, sumL f l ≤ sumL h l
  | [] => Int.le_refl _
  | y :: l => by
    have := sumL_le e l
    have := e y
    show f y + sumL f l ≤ h y + sumL h l
    omega
theorem pairSum_le {f h : Nat → Nat → Int} (e : ∀ x y, f x y ≤ h x y) : ∀ l : List Nat, pairSum f l ≤ pairSum h l
  | [] => Int.le_refl _
  | z :: l => by
    have := pairSum_le e l
    have := sumL_le (e z) l
    show sumL (f z) l + pairSum f l ≤ sumL (h z) l + pairSum h l
    omega
theorem pairs435 (hI : Inv a) {k : Nat} {l : List Nat} (nd : l.Nodup) (hm : ∀ y : Nat, y ∈ l ↔ ((y : Int) < a 53 5 ∧ abv (a 60) k 60 y = true)) (ap : Int) : pairSum (cmI a ap) l ≤ 435 := by
  have hN := hI.1
  have e1 : pairSum (cmI a ap) l ≤ pairSum (fun x y => (if a 57 x = 1 then 1 else 0) * (if a 57 y = 1 then 1 else 0)) l := pairSum_le (fun x y => by
    unfold cmI
    by_cases c1 : a 57 x = 1
    · by_cases c2 : a 57 y = 1
      · rw [if_pos c1, if_pos c2]; split <;> omega
      · rw [if_neg fun z => c2 z.1.2, if_neg c2]; omega
    · rw [if_neg fun z => c1 z.1.1, if_neg c1]; omega) l
  have e2 := pairSum_w (fun y => if a 57 y = 1 then 1 else 0) (fun y => by show (if a 57 y = 1 then (1 : Int) else 0) = 0 ∨ (if a 57 y = 1 then (1 : Int) else 0) = 1; split <;> omega) l
  have e3 : sumL (fun y => if a 57 y = 1 then 1 else 0) l ≤ 30 := by
    rw [sumL_in _ (a 53 5).toNat l nd (fun y hy => by have := ((hm y).mp hy).1; omega)]
    refine Int.le_trans (Int.le_of_eq (sumN_cg _ fun y hy => ?_)) (wt30 hI (k := k))
    by_cases c : y ∈ l
    · rw [if_pos c]
      have := ((hm y).mp c).2
      by_cases d : a 57 y = 1
      · rw [if_pos d, if_pos ⟨this, d⟩]
      · rw [if_neg d, if_neg fun z => d z.2]
    · rw [if_neg c, if_neg fun z => c ((hm y).mpr ⟨by omega, z.1⟩)]
  have e4 : 0 ≤ sumL (fun y => if a 57 y = 1 then 1 else 0) l := by
    have := sumL_le (f := fun _ => 0) (h := fun y => if a 57 y = 1 then 1 else 0) (fun y => by show (0 : Int) ≤ (if a 57 y = 1 then 1 else 0); split <;> omega) l
    rw [sumL_in (fun _ => 0) (a 53 5).toNat l nd (fun y hy => by have := ((hm y).mp hy).1; omega)] at this
    have z : sumN (fun y => if y ∈ l then 0 else 0) (a 53 5).toNat = 0 := (sumN_cg _ fun y _ => by split <;> rfl).trans (sumN_zero _)
    omega
  have e2 : 2 * pairSum (fun x y => (if a 57 x = 1 then 1 else 0) * (if a 57 y = 1 then 1 else 0)) l = sumL (fun y => if a 57 y = 1 then 1 else 0) l * (sumL (fun y => if a 57 y = 1 then 1 else 0) l - 1) := e2
  generalize pairSum (fun x y => (if a 57 x = 1 then 1 else 0) * (if a 57 y = 1 then 1 else 0)) l = p at *
  generalize sumL (fun y => if a 57 y = 1 then 1 else 0) l = S at *
  by_cases c : S = 0
  · rw [c] at e2; omega
  · have := Int.mul_le_mul (a := S) (b := S - 1) (c := 30) (d := 29) e3 (by omega) (by omega) (by omega)
    omega
end Search
