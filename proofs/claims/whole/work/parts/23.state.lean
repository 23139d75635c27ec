/-! THE STATE: what is live of the reference, the invariant, the relation to the class's cells -/
/-- the reference's cells that the answers of later calls depend on -/
def rl (i q : Nat) : Bool := (Nat.ble 54 i && Nat.ble i 70) || Nat.beq i 77 || Nat.beq i 78 || (Nat.beq i 53 && (Nat.beq q 0 || Nat.beq q 5 || Nat.beq q 26 || Nat.beq q 29))
def rz (g : Hp) : Hp := fun i q => bif rl i q then g i q else 0
theorem rz_at {g : Hp} {i q : Nat} (h : rl i q = true) : rz g i q = g i q := by unfold rz; rw [h]; rfl
theorem rz_up {g : Hp} {i k : Nat} {x : Int} (h : rl i k = true) : rz (up2 g i k x) = up2 (rz g) i k x := by
  funext j q
  unfold rz up2
  by_cases e : j = i ∧ q = k
  · rw [if_pos e, if_pos e, e.1, e.2, h]; rfl
  · rw [if_neg e, if_neg e]
theorem rz_sk {g : Hp} {i k : Nat} {x : Int} (h : rl i k = false) : rz (up2 g i k x) = rz g := by
  funext j q
  unfold rz up2
  by_cases e : j = i ∧ q = k
  · rw [e.1, e.2, h]; rfl
  · rw [if_neg e]
theorem rz_eq {g g' : Hp} (h : ∀ i q, rl i q = true → g' i q = g i q) : rz g' = rz g := by
  funext j q
  unfold rz
  cases e : rl j q with
  | false => rfl
  | true => rw [h j q e]
theorem rz_of {g g' : Hp} (h : rz g' = rz g) {i q : Nat} (hl : rl i q = true) : g' i q = g i q := by
  have := congrFun (congrFun h i) q
  rw [rz_at hl, rz_at hl] at this; exact this
theorem rz_rz (g : Hp) : rz (rz g) = rz g := rz_eq fun i q h => rz_at h

theorem up2_i {g : Hp} {i k j q : Nat} {x : Int} (h : j ≠ i) : up2 g i k x j q = g j q := if_neg fun e => h e.1
theorem up2_k {g : Hp} {i k q : Nat} {x : Int} : up2 g i k x i q = if q = k then x else g i q := by
  unfold up2
  by_cases e : q = k
  · rw [if_pos ⟨rfl, e⟩, if_pos e]
  · rw [if_neg (fun h => e h.2), if_neg e]
theorem up2_up {g : Hp} {i k : Nat} {x y : Int} : up2 (up2 g i k x) i k y = up2 g i k y := by
  funext j q
  unfold up2
  by_cases e : j = i ∧ q = k
  · rw [if_pos e, if_pos e]
  · rw [if_neg e, if_neg e, if_neg e]
theorem rz_u54 {g : Hp} {k : Nat} {x : Int} : rz (up2 g 54 k x) = up2 (rz g) 54 k x := rz_up rfl
theorem rz_u55 {g : Hp} {k : Nat} {x : Int} : rz (up2 g 55 k x) = up2 (rz g) 55 k x := rz_up rfl
theorem rz_u56 {g : Hp} {k : Nat} {x : Int} : rz (up2 g 56 k x) = up2 (rz g) 56 k x := rz_up rfl
theorem rz_u57 {g : Hp} {k : Nat} {x : Int} : rz (up2 g 57 k x) = up2 (rz g) 57 k x := rz_up rfl
theorem rz_u58 {g : Hp} {k : Nat} {x : Int} : rz (up2 g 58 k x) = up2 (rz g) 58 k x := rz_up rfl
theorem rz_u59 {g : Hp} {k : Nat} {x : Int} : rz (up2 g 59 k x) = up2 (rz g) 59 k x := rz_up rfl
theorem rz_u60 {g : Hp} {k : Nat} {x : Int} : rz (up2 g 60 k x) = up2 (rz g) 60 k x := rz_up rfl
theorem rz_u61 {g : Hp} {k : Nat} {x : Int} : rz (up2 g 61 k x) = up2 (rz g) 61 k x := rz_up rfl
theorem rz_u62 {g : Hp} {k : Nat} {x : Int} : rz (up2 g 62 k x) = up2 (rz g) 62 k x := rz_up rfl
theorem rz_u63 {g : Hp} {k : Nat} {x : Int} : rz (up2 g 63 k x) = up2 (rz g) 63 k x := rz_up rfl
theorem rz_u64 {g : Hp} {k : Nat} {x : Int} : rz (up2 g 64 k x) = up2 (rz g) 64 k x := rz_up rfl
theorem rz_u65 {g : Hp} {k : Nat} {x : Int} : rz (up2 g 65 k x) = up2 (rz g) 65 k x := rz_up rfl
theorem rz_u66 {g : Hp} {k : Nat} {x : Int} : rz (up2 g 66 k x) = up2 (rz g) 66 k x := rz_up rfl
theorem rz_u67 {g : Hp} {k : Nat} {x : Int} : rz (up2 g 67 k x) = up2 (rz g) 67 k x := rz_up rfl
theorem rz_u68 {g : Hp} {k : Nat} {x : Int} : rz (up2 g 68 k x) = up2 (rz g) 68 k x := rz_up rfl
theorem rz_u69 {g : Hp} {k : Nat} {x : Int} : rz (up2 g 69 k x) = up2 (rz g) 69 k x := rz_up rfl
theorem rz_u70 {g : Hp} {k : Nat} {x : Int} : rz (up2 g 70 k x) = up2 (rz g) 70 k x := rz_up rfl
theorem rz_u77 {g : Hp} {k : Nat} {x : Int} : rz (up2 g 77 k x) = up2 (rz g) 77 k x := rz_up rfl
theorem rz_u78 {g : Hp} {k : Nat} {x : Int} : rz (up2 g 78 k x) = up2 (rz g) 78 k x := rz_up rfl
theorem rz_f0 {g : Hp} {x : Int} : rz (up2 g 53 0 x) = up2 (rz g) 53 0 x := rz_up rfl
theorem rz_f5 {g : Hp} {x : Int} : rz (up2 g 53 5 x) = up2 (rz g) 53 5 x := rz_up rfl
theorem rz_f26 {g : Hp} {x : Int} : rz (up2 g 53 26 x) = up2 (rz g) 53 26 x := rz_up rfl
theorem rz_f29 {g : Hp} {x : Int} : rz (up2 g 53 29 x) = up2 (rz g) 53 29 x := rz_up rfl
theorem rz_f1 {g : Hp} {x : Int} : rz (up2 g 53 1 x) = rz g := rz_sk rfl
/-- the shape of part k of a: what the reference holds of it -/
def PI (a : Hp) (k : Nat) : Prop :=
  (-1 ≤ a 60 k ∧ a 60 k < a 53 5) ∧ (a 60 k < 0 → a 61 k = -1 ∧ a 62 k = 0) ∧
  (0 ≤ a 60 k → (1 ≤ a 62 k ∧ a 62 k ≤ 1000) ∧ (a 57 (a 60 k).toNat = 2 ∨ a 57 (a 60 k).toNat = 3) ∧ ((a 61 k = 0 ∧ a 66 (a 60 k).toNat = k) ∨ (a 61 k = 1 ∧ a 67 (a 60 k).toNat = k))) ∧
  (-1 ≤ a 66 k ∧ a 66 k < a 53 5 ∧ (0 ≤ a 66 k → a 60 (a 66 k).toNat = k ∧ a 61 (a 66 k).toNat = 0)) ∧
  (-1 ≤ a 67 k ∧ a 67 k < a 53 5 ∧ (0 ≤ a 67 k → a 60 (a 67 k).toNat = k ∧ a 61 (a 67 k).toNat = 1))
/-- twice the area of a plate's ring -/
def twR (c X Y : Nat → Int) (k : Nat) : Nat → Int
  | 0 => 0
  | j + 1 => twR c X Y k j + (X (8 * k + j) * Y (8 * k + (j + 1) % (c k).toNat) - X (8 * k + (j + 1) % (c k).toNat) * Y (8 * k + j))
/-- the kinds -/
def KI (a : Hp) (k : Nat) : Prop :=
  (a 57 k = 1 ∧ (1 ≤ a 63 k ∧ a 63 k ≤ 1000000) ∧ a 66 k = -1 ∧ a 67 k = -1) ∨
  ((a 57 k = 2 ∨ a 57 k = 3) ∧ (2 ≤ a 59 k ∧ a 59 k ≤ 1000) ∧ (0 ≤ a 58 k ∧ a 58 k ≤ 1000) ∧ a 63 k = a 59 k * a 58 k ∧ (1 ≤ a 64 k ∧ a 64 k < a 65 k ∧ a 65 k ≤ 1920000000)) ∨
  (a 57 k = 4 ∧ (1 ≤ a 63 k ∧ a 63 k ≤ 16000000) ∧ a 66 k = -1 ∧ a 67 k = -1 ∧ (3 ≤ a 68 k ∧ a 68 k ≤ 8) ∧ (∀ j : Nat, (j : Int) < a 68 k → (-1000 ≤ a 69 (8 * k + j) ∧ a 69 (8 * k + j) ≤ 1000) ∧ (-1000 ≤ a 70 (8 * k + j) ∧ a 70 (8 * k + j) ≤ 1000)) ∧ twR (a 68) (a 69) (a 70) k (a 68 k).toNat ≠ 0)
def TI (a : Hp) (t : Nat) : Prop := a 55 t = -1 ∨ ((0 ≤ a 55 t ∧ a 55 t ≤ 16) ∧ (0 ≤ a 54 t ∧ a 54 t ≤ 2))
def Inv (a : Hp) : Prop := (0 ≤ a 53 5 ∧ a 53 5 ≤ 60) ∧ (∀ t : Nat, t < 6 → TI a t) ∧ (∀ k : Nat, (k : Int) < a 53 5 → PI a k ∧ KI a k) ∧ Fo (a 53 5) (a 60) ∧ ((0 ≤ a 53 26 ∧ a 53 26 ≤ 14) ∧ ∀ i : Nat, (i : Int) < a 53 26 → 0 ≤ a 77 i ∧ a 77 i < a 53 5) ∧ (0 ≤ a 53 29 ∧ a 53 29 ≤ 100000)
theorem Inv.dp {a : Hp} (h : Inv a) : ∃ dp, DP (a 53 5) (a 60) dp := h.2.2.2.1.dp (fun k hk => (h.2.2.1 k hk).1.1)
/-- the cell of a part of the reference's number j, null where there is none -/
def rfx (g3 : Nat → Int) (j : Int) : Int := if j < 0 then 0 else g3 j.toNat
def rf (g : Hp) (j : Int) : Int := rfx (g 3) j
/-- the middle of a plate, as the class keeps it: its four numbers -/
def smR (c X Y Z : Nat → Int) (k : Nat) : Nat → Int
  | 0 => 0
  | j + 1 => smR c X Y Z k j + (X (8 * k + j) * Y (8 * k + (j + 1) % (c k).toNat) - X (8 * k + (j + 1) % (c k).toNat) * Y (8 * k + j)) * (Z (8 * k + j) + Z (8 * k + (j + 1) % (c k).toNat))
def mdR (c X Y : Nat → Int) (k w : Nat) : Int :=
  if w % 2 = 0 then (smR c X Y (if w < 2 then X else Y) k (c k).toNat).tdiv ((Int.gcd (smR c X Y (if w < 2 then X else Y) k (c k).toNat) (3 * twR c X Y k (c k).toNat) : Int) * (if 3 * twR c X Y k (c k).toNat < 0 then -1 else 1))
  else (3 * twR c X Y k (c k).toNat).tdiv ((Int.gcd (smR c X Y (if w < 2 then X else Y) k (c k).toNat) (3 * twR c X Y k (c k).toNat) : Int) * (if 3 * twR c X Y k (c k).toNat < 0 then -1 else 1))
def mdl (a : Hp) (k w : Nat) : Int := mdR (a 68) (a 69) (a 70) k w
/-- the class's cell of part k, u being what the cells of parts hold -/
def CQ (n : Nat) (dy : Nat → Shp) (g3 : Nat → Int) (u : Nat → Nat → Int) (a : Hp) (k : Nat) : Prop :=
  (100 ≤ g3 k ∧ g3 k < n) ∧ (u k 0 = k ∧ u k 1 = a 57 k ∧ u k 2 = a 63 k) ∧
  (u k 3 = rfx g3 (a 60 k) ∧ u k 4 = a 61 k ∧ u k 5 = a 62 k) ∧
  (a 57 k = 1 → dy (g3 k).toNat = (9, 0, fun _ => none)) ∧
  ((a 57 k = 2 ∨ a 57 k = 3) → dy (g3 k).toNat = (5, 0, fun _ => none) ∧ (u k 10 = a 59 k ∧ u k 11 = a 58 k ∧ u k 12 = a 64 k ∧ u k 13 = a 65 k) ∧ u k 14 = rfx g3 (a 66 k) ∧ u k 15 = rfx g3 (a 67 k)) ∧
  (a 57 k = 4 → dy (g3 k).toNat = (3, 0, fun _ => none) ∧ u k 10 = mdl a k 0 ∧ u k 11 = mdl a k 1 ∧ u k 12 = mdl a k 2 ∧ u k 13 = mdl a k 3)
def CP (n : Nat) (dy : Nat → Shp) (g a : Hp) (k : Nat) : Prop := CQ n dy (g 3) (fun j q => g (g 3 j).toNat q) a k
theorem CQ.cong {n n' : Nat} {dy dy' : Nat → Shp} {g3 g3' : Nat → Int} {u u' : Nat → Nat → Int} {a : Hp} {k : Nat} (h : CQ n dy g3 u a k) (hn : n ≤ n') (h3 : g3' k = g3 k) (hd : dy' (g3 k).toNat = dy (g3 k).toNat) (hr : ∀ j : Int, j = a 60 k ∨ j = a 66 k ∨ j = a 67 k → rfx g3' j = rfx g3 j) (hu : ∀ q, (q < 6 ∨ 10 ≤ q) → u' k q = u k q) : CQ n' dy' g3' u' a k := by
  unfold CQ at h ⊢
  rw [h3, hd, hr _ (Or.inl rfl), hr _ (Or.inr (Or.inl rfl)), hr _ (Or.inr (Or.inr rfl)), hu 0 (by omega), hu 1 (by omega), hu 2 (by omega), hu 3 (by omega), hu 4 (by omega), hu 5 (by omega), hu 10 (by omega), hu 11 (by omega), hu 12 (by omega), hu 13 (by omega), hu 14 (by omega), hu 15 (by omega)]
  exact ⟨⟨h.1.1, by have := h.1.2; omega⟩, h.2⟩
def CT (g a : Hp) (t : Nat) : Prop := g 2 t = ((41 + 2 * t : Nat) : Int) ∧ ((a 55 t < 0 ∧ g (41 + 2 * t) 0 = -1) ∨ (0 ≤ a 55 t ∧ g (41 + 2 * t) 0 = a 54 t ∧ g (41 + 2 * t) 1 = a 55 t ∧ ∀ q : Nat, (q : Int) < a 55 t → g (42 + 2 * t) q = a 56 (16 * t + q)))
def Ca (n : Nat) (dy : Nat → Shp) (g a : Hp) : Prop :=
  100 ≤ n ∧ (g 1 2 = a 53 5 ∧ g 1 3 = a 53 0) ∧ (∀ t : Nat, t < 6 → CT g a t) ∧ (∀ k : Nat, (k : Int) < a 53 5 → CP n dy g a k) ∧ (g 1 11 = a 53 26 ∧ ∀ i : Nat, (i : Int) < a 53 26 → g 36 i = a 77 i) ∧ (g 37 1 = a 53 29 ∧ (∀ i : Nat, (i : Int) < a 53 29 → i < 600 → g 38 i = a 78 i) ∧ ∀ p : Nat, p < 9 → g 23 p = ((24 + p : Nat) : Int))
/-- the class's cells that matter between calls -/
def cl (i q : Nat) : Prop := (100 ≤ i ∧ (q < 6 ∨ 10 ≤ q)) ∨ (i = 1 ∧ (q = 2 ∨ q = 3 ∨ q = 11)) ∨ i = 2 ∨ i = 23 ∨ i = 3 ∨ i = 36 ∨ (i = 37 ∧ q = 1) ∨ i = 38 ∨ (41 ≤ i ∧ i ≤ 52)
theorem Ca.keep {n : Nat} {dy : Nat → Shp} {g g' a : Hp} (hc : Ca n dy g a) (h : ∀ i q, cl i q → g' i q = g i q) : Ca n dy g' a := by
  obtain ⟨h0, ⟨h1, h2⟩, h3, h4, ⟨h5, h6⟩, h7, h8, h9⟩ := hc
  have e3 : ∀ q, g' 3 q = g 3 q := fun q => h 3 q (by unfold cl; omega)
  have er : ∀ j, rfx (g' 3) j = rfx (g 3) j := fun j => by unfold rfx; rw [e3]
  refine ⟨h0, ⟨(h 1 2 (by unfold cl; omega)).trans h1, (h 1 3 (by unfold cl; omega)).trans h2⟩, fun t ht => ?_, fun k hk => ?_, ⟨(h 1 11 (by unfold cl; omega)).trans h5, fun i hi => (h 36 i (by unfold cl; omega)).trans (h6 i hi)⟩, (h 37 1 (by unfold cl; omega)).trans h7, fun i hi hj => (h 38 i (by unfold cl; omega)).trans (h8 i hi hj), fun p hp => (h 23 p (by unfold cl; omega)).trans (h9 p hp)⟩
  · obtain ⟨c1, c2⟩ := h3 t ht
    refine ⟨(h 2 t (by unfold cl; omega)).trans c1, ?_⟩
    rw [h (41 + 2 * t) 0 (by unfold cl; omega), h (41 + 2 * t) 1 (by unfold cl; omega)]
    rcases c2 with c | ⟨c3, c4, c5, c6⟩
    · exact Or.inl c
    · exact Or.inr ⟨c3, c4, c5, fun q hq => (h (42 + 2 * t) q (by unfold cl; omega)).trans (c6 q hq)⟩
  · have hp := h4 k hk
    have hb := hp.1
    refine CQ.cong hp (Nat.le_refl _) (e3 k) rfl (fun j _ => er j) (fun q hq => ?_)
    show g' (g' 3 k).toNat q = g (g 3 k).toNat q
    rw [e3]
    exact h _ q (by unfold cl; omega)
theorem CP.pt {n : Nat} {dy : Nat → Shp} {g a : Hp} {k : Nat} (h : CP n dy g a k) (hK : KI a k) : Pt n (W0 dy) (g 3 k).toNat := by
  obtain ⟨h1, h2, h3, h4, h5, h6⟩ := h
  have hw : W0 dy (g 3 k).toNat = dy (g 3 k).toNat := by
    unfold W0
    have : stab[(g 3 k).toNat]? = none := List.getElem?_eq_none (by show stab.length ≤ _; have : stab.length = 100 := rfl; omega)
    rw [this]
  unfold Pt
  rw [hw]
  refine ⟨by omega, ?_⟩
  rcases hK with c | c | c
  · rw [h4 c.1]; exact ⟨Or.inr (Or.inr rfl), fun _ => rfl⟩
  · rw [(h5 c.1).1]; exact ⟨Or.inr (Or.inl rfl), fun _ => rfl⟩
  · rw [(h6 c.1).1]; exact ⟨Or.inl rfl, fun _ => rfl⟩
theorem W0_hi (dy : Nat → Shp) {c : Nat} (h : 100 ≤ c) : W0 dy c = dy c := by
  unfold W0
  have : stab[c]? = none := List.getElem?_eq_none (by show stab.length ≤ _; have : stab.length = 100 := rfl; omega)
  rw [this]
theorem CP.ob {n : Nat} {dy : Nat → Shp} {g a : Hp} {k : Nat} (h : CP n dy g a k) (hK : a 57 k = 2 ∨ a 57 k = 3) : Ob n (W0 dy) (g 3 k).toNat 5 := by
  obtain ⟨h1, h2, h3, h4, h5, h6⟩ := h
  unfold Ob
  rw [W0_hi dy (by omega), (h5 hK).1]
  exact ⟨by omega, rfl, fun _ => rfl⟩
theorem CP.obp {n : Nat} {dy : Nat → Shp} {g a : Hp} {k : Nat} (h : CP n dy g a k) (hK : a 57 k = 4) : Ob n (W0 dy) (g 3 k).toNat 3 := by
  obtain ⟨h1, h2, h3, h4, h5, h6⟩ := h
  unfold Ob
  rw [W0_hi dy (by omega), (h6 hK).1]
  exact ⟨by omega, rfl, fun _ => rfl⟩
theorem CP.isk {n : Nat} {dy : Nat → Shp} {g a : Hp} {k : Nat} (h : CP n dy g a k) (hK : KI a k) : isK (W0 dy) (g 3 k).toNat 5 = if a 57 k = 2 ∨ a 57 k = 3 then 1 else 0 := by
  obtain ⟨h1, h2, h3, h4, h5, h6⟩ := h
  unfold isK
  rw [W0_hi dy (by omega), if_neg (by omega)]
  rcases hK with c | c | c
  · rw [h4 c.1, if_neg (by decide), if_neg (by omega)]
  · rw [(h5 c.1).1, if_pos rfl, if_pos c.1]
  · rw [(h6 c.1).1, if_neg (by decide), if_neg (by omega)]
theorem CP.iskp {n : Nat} {dy : Nat → Shp} {g a : Hp} {k : Nat} (h : CP n dy g a k) (hK : KI a k) : isK (W0 dy) (g 3 k).toNat 3 = if a 57 k = 4 then 1 else 0 := by
  obtain ⟨h1, h2, h3, h4, h5, h6⟩ := h
  unfold isK
  rw [W0_hi dy (by omega), if_neg (by omega)]
  rcases hK with c | c | c
  · rw [h4 c.1, if_neg (by decide), if_neg (by omega)]
  · rw [(h5 c.1).1, if_neg (by decide), if_neg (by omega)]
  · rw [(h6 c.1).1, if_pos rfl, if_pos c.1]
theorem CP.inj {n : Nat} {dy : Nat → Shp} {g a : Hp} {j k : Nat} (h : CP n dy g a j) (h' : CP n dy g a k) (e : (g 3 j).toNat = (g 3 k).toNat) : j = k := by
  have h1 : g (g 3 j).toNat 0 = j := h.2.1.1
  have h2 : g (g 3 k).toNat 0 = k := h'.2.1.1
  rw [e, h2] at h1
  omega
theorem rf_nn {g : Hp} {j : Int} (h : 0 ≤ j) : rf g j = g 3 j.toNat := if_neg (by omega)
theorem rf_neg {g : Hp} {j : Int} (h : j < 0) : rf g j = 0 := if_pos h
