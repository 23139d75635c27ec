/-! PAIRS: sums over pairs; the last rod above both, from either side -/
def pairSum (f : Nat → Nat → Int) : List Nat → Int
  | [] => 0
  | z :: l => sumL (f z) l + pairSum f l
theorem sumN_swap1 (h : Nat → Int) (z n : Nat) (hz : z < n) : sumN (fun x => sumN (fun y => if x = z then h y else 0) n) n = sumN h n := by
  have e : ∀ x, sumN (fun y => if x = z then h y else 0) n = if x = z then sumN h n else 0 := fun x => by
    by_cases c : x = z
    · rw [if_pos c]; exact sumN_cg n fun y _ => if_pos c
    · rw [if_neg c]; exact (sumN_cg n fun y _ => if_neg c).trans (sumN_zero n)
  rw [sumN_cg n fun x _ => e x]
  have := sumN_one (fun _ => sumN h n) z n
  rw [if_pos hz] at this; exact this
theorem sumN_swap2 (h : Nat → Int) (z n : Nat) (hz : z < n) : sumN (fun x => sumN (fun y => if y = z then h x else 0) n) n = sumN h n := by
  refine sumN_cg n fun x _ => ?_
  have := sumN_one (fun _ => h x) z n
  rw [if_pos hz] at this; exact this
theorem pairSum_in (f : Nat → Nat → Int) (n : Nat) : ∀ l : List Nat, l.Nodup → (∀ y, y ∈ l → y < n) → (∀ x y, x ∈ l → y ∈ l → f x y = f y x) → pairSum f l = sumN (fun x => sumN (fun y => if x < y ∧ x ∈ l ∧ y ∈ l then f x y else 0) n) n
  | [], _, _, _ => by
    refine Eq.trans (sumN_zero n).symm (sumN_cg n fun x _ => Eq.trans (sumN_zero n).symm (sumN_cg n fun y _ => ?_))
    rw [if_neg (by simp)]
  | z :: l, hd, hb, hs => by
    obtain ⟨h1, h2⟩ := List.nodup_cons.mp hd
    have hz : z < n := hb z (List.mem_cons_self ..)
    have ih := pairSum_in f n l h2 (fun y hy => hb y (List.mem_cons_of_mem _ hy)) (fun x y hx hy => hs x y (List.mem_cons_of_mem _ hx) (List.mem_cons_of_mem _ hy))
    show sumL (f z) l + pairSum f l = _
    rw [ih, sumL_in (f z) n l h2 (fun y hy => hb y (List.mem_cons_of_mem _ hy))]
    have p1 : sumN (fun y => if y ∈ l then f z y else 0) n = sumN (fun x => sumN (fun y => if x = z then (if z < y ∧ y ∈ l then f z y else 0) else 0) n) n + sumN (fun x => sumN (fun y => if y = z then (if x < z ∧ x ∈ l then f x z else 0) else 0) n) n := by
      rw [sumN_swap1 (fun y => if z < y ∧ y ∈ l then f z y else 0) z n hz, sumN_swap2 (fun x => if x < z ∧ x ∈ l then f x z else 0) z n hz, ← sumN_add]
      refine sumN_cg n fun y _ => ?_
      show (if y ∈ l then f z y else 0) = (if z < y ∧ y ∈ l then f z y else 0) + (if y < z ∧ y ∈ l then f y z else 0)
      by_cases c : y ∈ l
      · have ne : y ≠ z := fun e => h1 (e ▸ c)
        rw [if_pos c]
        rcases Nat.lt_or_ge z y with d | d
        · rw [if_pos ⟨d, c⟩, if_neg (by omega)]; omega
        · rw [if_neg (by omega), if_pos ⟨by omega, c⟩, hs z y (List.mem_cons_self ..) (List.mem_cons_of_mem _ c)]; omega
      · rw [if_neg c, if_neg (fun q => c q.2), if_neg (fun q => c q.2)]; rfl
    rw [p1, ← sumN_add, ← sumN_add]
    refine sumN_cg n fun x _ => ?_
    show sumN _ n + sumN _ n + sumN _ n = sumN _ n
    rw [← sumN_add, ← sumN_add]
    refine sumN_cg n fun y _ => ?_
    show (if x = z then (if z < y ∧ y ∈ l then f z y else 0) else 0) + (if y = z then (if x < z ∧ x ∈ l then f x z else 0) else 0) + (if x < y ∧ x ∈ l ∧ y ∈ l then f x y else 0) = if x < y ∧ x ∈ z :: l ∧ y ∈ z :: l then f x y else 0
    by_cases cx : x = z
    · subst cx
      by_cases cy : y = x
      · subst cy
        rw [if_pos rfl, if_neg (by omega), if_neg (by omega), if_neg (by omega)]; rfl
      · rw [if_pos rfl, if_neg cy, if_neg (c := x < y ∧ x ∈ l ∧ y ∈ l) (fun q => h1 q.2.1)]
        by_cases d : x < y ∧ y ∈ l
        · rw [if_pos d, if_pos ⟨d.1, List.mem_cons_self .., List.mem_cons_of_mem _ d.2⟩]; omega
        · rw [if_neg d, if_neg (fun q => d ⟨q.1, (List.mem_cons.mp q.2.2).resolve_left cy⟩)]; rfl
    · rw [if_neg cx]
      by_cases cy : y = z
      · subst cy
        rw [if_pos rfl, if_neg (c := x < y ∧ x ∈ l ∧ y ∈ l) (fun q => h1 q.2.2)]
        by_cases d : x < y ∧ x ∈ l
        · rw [if_pos d, if_pos ⟨d.1, List.mem_cons_of_mem _ d.2, List.mem_cons_self ..⟩]; omega
        · rw [if_neg d, if_neg (fun q => d ⟨q.1, (List.mem_cons.mp q.2.1).resolve_left cx⟩)]; rfl
      · rw [if_neg cy]
        by_cases d : x < y ∧ x ∈ l ∧ y ∈ l
        · rw [if_pos d, if_pos ⟨d.1, List.mem_cons_of_mem _ d.2.1, List.mem_cons_of_mem _ d.2.2⟩]; omega
        · rw [if_neg d, if_neg (fun q => d ⟨q.1, (List.mem_cons.mp q.2.1).resolve_left cx, (List.mem_cons.mp q.2.2).resolve_left cy⟩)]; rfl
section LaSym
variable {N : Int} {on : Nat → Int} {dp : Nat → Nat}
theorem la_max (hD : DP N on dp) (hN : N ≤ 60) {y r' : Nat} (hy : abv on r' 60 y = true) : ∀ f k : Nat, dp k = f → (k : Int) < N → abv on r' 60 k = true → r' ≠ k → 0 ≤ la on y 60 k ∧ dp r' ≤ dp (la on y 60 k).toNat := by
  intro f
  induction f with
  | zero =>
    intro k hf hk ha hne
    have := (abv_dp hD hN 0 k hf hk ha (fun e => hne e.symm)).1; omega
  | succ f ih =>
    intro k hf hk ha hne
    obtain ⟨b1, b2, b3⟩ := abv_dp hD hN _ k hf hk ha (fun e => hne e.symm)
    have h3 := (hD k hk).2.2.2 b2
    have h1 := (hD k hk).1
    rw [la_eq hD hN hk, if_neg (by omega)]
    obtain ⟨p, ep⟩ := exN b2
    rw [ep] at h3 h1 b3 ⊢
    have h3 : dp k = dp p + 1 := h3
    have b3 : abv on r' 60 p = true := b3
    show 0 ≤ (if abv on p 60 y = true then (p : Int) else la on y 60 p) ∧ dp r' ≤ dp (if abv on p 60 y = true then (p : Int) else la on y 60 p).toNat
    by_cases z : abv on p 60 y = true
    · rw [if_pos z]
      refine ⟨by omega, ?_⟩
      show dp r' ≤ dp p
      omega
    · rw [if_neg z]
      exact ih p (by omega) h1.2 b3 (fun e => z (e ▸ hy))
end LaSym
section Pairs
variable {a : Hp}
theorem la_sym {x y : Nat} (hI : Inv a) (h : Two a x y) : la (a 60) y 60 x = la (a 60) x 60 y := by
  obtain ⟨dp, hD⟩ := hI.dp
  have hN := hI.1.2
  obtain ⟨r, r1, r2, r3, r4, r5, r6, r7⟩ := h.la hI
  obtain ⟨s, s1, s2, s3, s4, s5, s6, s7⟩ := h.sym.la hI
  have m1 := (la_max hD hN r4 _ x rfl h.1.1 r3 r5)
  have m2 := (la_max hD hN s3 _ x rfl h.1.1 s4 s6)
  have m3 := (la_max hD hN r3 _ y rfl h.1.2.1 r4 r6)
  rw [r1] at m2
  rw [s1] at m3
  have m2 : dp s ≤ dp r := m2.2
  have m3 : dp r ≤ dp s := m3.2
  have e := abv_one hD hN (c := r) (c' := s) (by omega) _ x rfl h.1.1 r3 s4
  rw [r1, s1, e]
theorem tch_sym (L : Int) (m m' : Int × Int × Int) : tch L m m' ↔ tch L m' m := by
  unfold tch
  exact ⟨fun h => ⟨by omega, h.2.2, h.2.1⟩, fun h => ⟨by omega, h.2.2, h.2.1⟩⟩
theorem tc_sym {x y : Nat} (hI : Inv a) (h : Two a x y) : tc a x y = tc a y x := by
  have e := la_sym hI h
  have eA : mAB a y x = mBA a x y := by unfold mAB mBA; rw [e]
  have eB : mBA a y x = mAB a x y := by unfold mAB mBA; rw [e]
  unfold tc
  rw [e, eA, eB]
  by_cases c : tch (a 59 (la (a 60) x 60 y).toNat) (mAB a x y) (mBA a x y)
  · rw [if_pos c, if_pos ((tch_sym _ _ _).mp c)]
  · rw [if_neg c, if_neg (fun z => c ((tch_sym _ _ _).mp z))]
/-- all arms of k's mobile are whole -/
abbrev cWh (a : Hp) (k : Nat) : Prop := ∀ y : Nat, y < (a 53 5).toNat → abv (a 60) k 60 y = true → (a 57 y = 2 ∨ a 57 y = 3) → whI a y ≠ 0
def whT (a : Hp) (x1 : Int) : Int := if 0 < topI a x1 then topI a x1 else if cWh a x1.toNat then 0 else 9
theorem msr_wh (hI : Inv a) {k0 : Nat} {s : Int} (h0 : a 60 k0 < 0) (hw : cWh a k0) {dp : Nat → Nat} (hD : DP (a 53 5) (a 60) dp) : ∀ (f k : Nat) (t : Int × Int × Int), dp k = f → (k : Int) < a 53 5 → abv (a 60) k0 60 k = true → t.1 = 1 → (msr a s 60 k t).1 = 1 := by
  intro f
  induction f with
  | zero =>
    intro k t hf hk ha ht
    rw [msr_eq hD hI.1.2 hk, if_pos]
    · exact ht
    · by_cases c : a 60 k < 0
      · exact Or.inl c
      · have := (hD k hk).2.2.2 (by omega); omega
  | succ f ih =>
    intro k t hf hk ha ht
    rw [msr_eq hD hI.1.2 hk]
    by_cases c : a 60 k < 0 ∨ a 60 k = s
    · rw [if_pos c]; exact ht
    · rw [if_neg c]
      have hz : 0 ≤ a 60 k := by omega
      have hon := (hD k hk).1
      have hd := (hD k hk).2.2.2 hz
      have hrod := ((hI.2.2.1 k hk).1.2.2.1 hz).2.1
      have kk0 : k ≠ k0 := fun e => by rw [e] at hz; omega
      obtain ⟨-, -, ha2⟩ := abv_dp hD hI.1.2 _ k rfl hk ha kk0
      have w := hw (a 60 k).toNat (by omega) ha2 hrod
      have wb := whI_b (a := a) (a 60 k).toNat
      refine ih _ _ (by omega) (by omega) ha2 ?_
      show (if t.1 = 0 then 0 else whI a (a 60 k).toNat) = 1
      rw [if_neg (by omega)]; omega
theorem abv_topk (hI : Inv a) {k0 : Nat} (h0 : a 60 k0 < 0) {dp : Nat → Nat} (hD : DP (a 53 5) (a 60) dp) : ∀ (f k : Nat), dp k = f → (k : Int) < a 53 5 → abv (a 60) k0 60 k = true → top (a 60) 60 k = k0 := by
  intro f
  induction f with
  | zero =>
    intro k hf hk ha
    have kk0 : k = k0 := Decidable.byContradiction fun z => by have := (abv_dp hD hI.1.2 _ k hf hk ha z).1; omega
    rw [top_eq hD hI.1.2 hk, if_pos (by rw [kk0]; exact h0)]; exact kk0
  | succ f ih =>
    intro k hf hk ha
    by_cases kk0 : k = k0
    · rw [top_eq hD hI.1.2 hk, if_pos (by rw [kk0]; exact h0)]; exact kk0
    · obtain ⟨-, b2, ha2⟩ := abv_dp hD hI.1.2 _ k rfl hk ha kk0
      have hd := (hD k hk).2.2.2 b2
      have hon := (hD k hk).1
      rw [top_eq hD hI.1.2 hk, if_neg (by omega)]
      exact ih _ (by omega) (by omega) ha2
/-- y is a weight of k's mobile -/
abbrev Wt (a : Hp) (k y : Nat) : Prop := abv (a 60) k 60 y = true ∧ a 57 y = 1
theorem Wt.two (hI : Inv a) {k x y : Nat} (h0 : a 60 k < 0) (hx : (x : Int) < a 53 5) (hy : (y : Int) < a 53 5) (hxy : x ≠ y) (wx : Wt a k x) (wy : Wt a k y) : Two a x y := by
  obtain ⟨dp, hD⟩ := hI.dp
  exact ⟨⟨hx, hy, hxy⟩, ⟨wx.2, wy.2⟩, by rw [abv_topk hI h0 hD _ x rfl hx wx.1, abv_topk hI h0 hD _ y rfl hy wy.1]⟩
theorem nr_tc (hI : Inv a) {k x y : Nat} (h0 : a 60 k < 0) (hw : cWh a k) (hx : (x : Int) < a 53 5) (hy : (y : Int) < a 53 5) (ax : abv (a 60) k 60 x = true) (ay : abv (a 60) k 60 y = true) : nr a x y = tc a x y := by
  obtain ⟨dp, hD⟩ := hI.dp
  have e1 : (mAB a x y).1 = 1 := msr_wh hI h0 hw hD _ x (1, 0, 0) rfl hx ax rfl
  have e2 : (mBA a x y).1 = 1 := msr_wh hI h0 hw hD _ y (1, 0, 0) rfl hy ay rfl
  unfold nr
  rw [if_neg (by omega)]
/-- x and y can meet where they hang -/
def mt (a : Hp) (k x y : Nat) : Int := if (Wt a k x ∧ Wt a k y) ∧ nr a x y = 1 ∧ hh a x = hh a y then 1 else 0
def cntM (a : Hp) (k : Nat) : Int := sumN (fun x => sumN (fun y => if x < y then mt a k x y else 0) (a 53 5).toNat) (a 53 5).toNat
def opClashes (a : Hp) (x1 : Int) : Int × Hp := if 0 < whT a x1 then (-1, up2 a 53 0 (whT a x1)) else (cntM a x1.toNat, a)
end Pairs
