/-! NEAR: the last rod above both; the reference -/
/-- the last above k that is above y too -/
def la (on : Nat → Int) (y : Nat) : Nat → Nat → Int
  | 0, _ => -1
  | f + 1, k => if on k < 0 then -1 else if abv on (on k).toNat 60 y = true then on k else la on y f (on k).toNat
section La
variable {N : Int} {on : Nat → Int} {dp : Nat → Nat}
theorem la_st (hD : DP N on dp) {y : Nat} : ∀ (f f' k : Nat), (k : Int) < N → dp k ≤ f → dp k ≤ f' → la on y f k = la on y f' k
  | 0, 0, _, _, _, _ => rfl
  | 0, f' + 1, k, hk, h1, _ => by
    show -1 = if on k < 0 then -1 else _
    rw [if_pos]
    by_cases c : on k < 0
    · exact c
    · have := (hD k hk).2.2.2 (by omega); omega
  | f + 1, 0, k, hk, _, h2 => by
    show (if on k < 0 then -1 else _) = -1
    rw [if_pos]
    by_cases c : on k < 0
    · exact c
    · have := (hD k hk).2.2.2 (by omega); omega
  | f + 1, f' + 1, k, hk, h1, h2 => by
    show (if on k < 0 then -1 else if abv on (on k).toNat 60 y = true then on k else la on y f (on k).toNat) = if on k < 0 then -1 else if abv on (on k).toNat 60 y = true then on k else la on y f' (on k).toNat
    by_cases c : on k < 0
    · rw [if_pos c, if_pos c]
    · rw [if_neg c, if_neg c]
      have h3 := (hD k hk).2.2.2 (by omega)
      rw [la_st hD f f' _ (by have := (hD k hk).1; omega) (by omega) (by omega)]
theorem la_eq (hD : DP N on dp) (hN : N ≤ 60) {y k : Nat} (hk : (k : Int) < N) : la on y 60 k = if on k < 0 then -1 else if abv on (on k).toNat 60 y = true then on k else la on y 60 (on k).toNat := by
  show (if on k < 0 then -1 else if abv on (on k).toNat 60 y = true then on k else la on y 59 (on k).toNat) = _
  by_cases c : on k < 0
  · rw [if_pos c, if_pos c]
  · rw [if_neg c, if_neg c]
    have h3 := (hD k hk).2.2.2 (by omega)
    have h4 := (hD k hk).2.1
    rw [la_st hD 59 60 _ (by have := (hD k hk).1; omega) (by omega) (by omega)]
theorem abv_top (hD : DP N on dp) (hN : N ≤ 60) : ∀ f k : Nat, dp k = f → (k : Int) < N → abv on (top on 60 k) 60 k = true := by
  intro f
  induction f with
  | zero =>
    intro k hf hk
    have c : on k < 0 := by
      by_cases c : on k < 0
      · exact c
      · have := (hD k hk).2.2.2 (by omega); omega
    rw [top_eq hD hN hk, if_pos c]; exact abv_self hD hN hk
  | succ f ih =>
    intro k hf hk
    have c : ¬ on k < 0 := fun c => by have := (hD k hk).2.2.1 c; omega
    have h3 := (hD k hk).2.2.2 (by omega)
    have h1 := (hD k hk).1
    rw [top_eq hD hN hk, if_neg c, abv_eq hD hN hk]
    split
    · rfl
    · exact ih _ (by omega) (by omega)
theorem la_sp (hD : DP N on dp) (hN : N ≤ 60) {y : Nat} : ∀ f k : Nat, dp k = f → (k : Int) < N → 0 ≤ on k → abv on (top on 60 k) 60 y = true → ∃ r : Nat, la on y 60 k = (r : Int) ∧ (r : Int) < N ∧ abv on r 60 k = true ∧ abv on r 60 y = true ∧ r ≠ k ∧ dp r < dp k := by
  intro f
  induction f with
  | zero =>
    intro k hf hk c
    have := (hD k hk).2.2.2 c; omega
  | succ f ih =>
    intro k hf hk c ht
    have h3 := (hD k hk).2.2.2 c
    have h1 := (hD k hk).1
    rw [top_eq hD hN hk, if_neg (by omega)] at ht
    rw [la_eq hD hN hk, if_neg (by omega)]
    obtain ⟨p, ep⟩ := exN c
    rw [ep] at h3 h1 ht ⊢
    have h3 : dp k = dp p + 1 := h3
    have ht : abv on (top on 60 p) 60 y = true := ht
    show ∃ r : Nat, (if abv on p 60 y = true then (p : Int) else la on y 60 p) = (r : Int) ∧ _
    have kp : k ≠ p := fun e => by rw [e] at h3; omega
    by_cases z : abv on p 60 y = true
    · rw [if_pos z]
      refine ⟨p, rfl, h1.2, ?_, z, fun e => kp e.symm, by omega⟩
      rw [abv_eq hD hN hk, if_neg kp, ep, if_neg (by omega)]; exact abv_self hD hN h1.2
    · rw [if_neg z]
      have c2 : 0 ≤ on p := by
        by_cases c2 : on p < 0
        · rw [top_eq hD hN h1.2, if_pos c2] at ht; exact absurd ht z
        · omega
      obtain ⟨r, r1, r2, r3, r4, r5, r6⟩ := ih p (by omega) h1.2 c2 ht
      refine ⟨r, r1, r2, ?_, r4, fun e => by rw [e] at r6; omega, by omega⟩
      rw [abv_eq hD hN hk]
      split
      · rfl
      · rw [ep, if_neg (by omega)]; exact r3
end La
section Near
variable {d n : Nat} {dy : Nat → Shp} {g a : Hp} {P : Pst}
/-- what something hangs on is a rod -/
theorem abv_rod (hI : Inv a) {r x : Nat} (hx : (x : Int) < a 53 5) (h : abv (a 60) r 60 x = true) (hne : x ≠ r) : a 57 r = 2 ∨ a 57 r = 3 := by
  obtain ⟨dp, hD⟩ := hI.dp
  obtain ⟨c, c1, c2, -⟩ := abv_child hD hI.1.2 _ x rfl hx h hne
  have := ((hI.2.2.1 c c1).1.2.2.1 (by omega)).2.1
  rw [c2] at this; exact this
/-- two weights of one mobile -/
def Two (a : Hp) (x y : Nat) : Prop := ((x : Int) < a 53 5 ∧ (y : Int) < a 53 5 ∧ x ≠ y) ∧ (a 57 x = 1 ∧ a 57 y = 1) ∧ top (a 60) 60 x = top (a 60) 60 y
theorem Two.sym {x y : Nat} (h : Two a x y) : Two a y x := ⟨⟨h.1.2.1, h.1.1, fun e => h.1.2.2 e.symm⟩, ⟨h.2.1.2, h.2.1.1⟩, h.2.2.symm⟩
theorem Two.on {x y : Nat} (hI : Inv a) (h : Two a x y) : 0 ≤ a 60 x := by
  obtain ⟨dp, hD⟩ := hI.dp
  obtain ⟨⟨h1, h2, h3⟩, ⟨h4, h5⟩, h6⟩ := h
  by_cases c : a 60 x < 0
  · have t := abv_top hD hI.1.2 _ y rfl h2
    rw [← h6, top_eq hD hI.1.2 h1, if_pos c] at t
    have := abv_rod hI h2 t (fun e => h3 e.symm)
    omega
  · omega
theorem Two.la {x y : Nat} (hI : Inv a) (h : Two a x y) : ∃ r : Nat, la (a 60) y 60 x = (r : Int) ∧ (r : Int) < a 53 5 ∧ abv (a 60) r 60 x = true ∧ abv (a 60) r 60 y = true ∧ r ≠ x ∧ r ≠ y ∧ (a 57 r = 2 ∨ a 57 r = 3) := by
  obtain ⟨dp, hD⟩ := hI.dp
  have c := h.on hI
  obtain ⟨⟨h1, h2, h3⟩, ⟨h4, h5⟩, h6⟩ := h
  have t := abv_top hD hI.1.2 _ y rfl h2
  rw [← h6] at t
  obtain ⟨r, r1, r2, r3, r4, r5, r6⟩ := la_sp hD hI.1.2 _ x rfl h1 c t
  have rr := abv_rod hI h1 r3 (fun e => r5 e.symm)
  exact ⟨r, r1, r2, r3, r4, r5, fun e => by rw [e] at rr; omega, rr⟩
theorem sp_lastAbove {x y : Nat} (hn : 100 ≤ n) (hI : Inv g) (hx : (x : Int) < g 53 5) (hy : (y : Int) < g 53 5) (hc : 0 ≤ g 60 x) (ht : abv (g 60) (top (g 60) 60 x) 60 y = true) (h : P (some (I_ (la (g 60) y 60 x))) n (W0 dy) g) : Runs miX12_lastAbove (d + 1) [.ref 53, I_ (x : Int), I_ (y : Int)] n (W0 dy) g P := by
  obtain ⟨dp, hD⟩ := hI.dp
  have hN := hI.1
  have hF : RF g := ⟨hI.1, hI.dp⟩
  have key : ∀ f k : Nat, dp k = f → (k : Int) < g 53 5 → 0 ≤ g 60 k → abv (g 60) (top (g 60) 60 k) 60 y = true → la (g 60) y 60 k = la (g 60) y 60 x → V miX12_lastAbove (d + 1) 7 [(0, .ref 53), (1, I_ (x : Int)), (2, I_ (y : Int)), (3, I_ (g 60 k))] [] n (W0 dy) g 0 0 P := by
    intro f
    induction f with
    | zero =>
      intro k hf hk c
      have := (hD k hk).2.2.2 c; omega
    | succ f ih =>
      intro k hf hk c ht he
      have h3 := (hD k hk).2.2.2 c
      have h1 := (hD k hk).1
      rw [top_eq hD hN.2 hk, if_neg (by omega)] at ht
      rw [la_eq hD hN.2 hk, if_neg (by omega)] at he
      obtain ⟨p, ep⟩ := exN c
      rw [ep] at h3 h1 ht he ⊢
      have h3 : dp k = dp p + 1 := h3
      have ht : abv (g 60) (top (g 60) 60 p) 60 y = true := ht
      have he : (if abv (g 60) p 60 y = true then (p : Int) else la (g 60) y 60 p) = la (g 60) y 60 x := he
      refine bX12_lastAbove_7 hn (spX12_isAbove hn hF ⟨by omega, by omega⟩ (by omega) (by omega) ⟨fun q => ?_, fun q => ?_⟩)
      · have q : abvI (g 60) p y = 0 := q
        have z : ¬ abv (g 60) p 60 y = true := fun z => by unfold abvI at q; rw [if_pos z] at q; omega
        rw [if_neg z] at he
        have c2 : 0 ≤ g 60 p := by
          by_cases c2 : g 60 p < 0
          · rw [top_eq hD hN.2 h1.2, if_pos c2] at ht; exact absurd ht z
          · omega
        exact bX12_lastAbove_13 hn ⟨by decide, fun q => absurd rfl q, fun _ => ⟨by omega, ih p (by omega) h1.2 c2 ht he⟩⟩
      · have q : abvI (g 60) p y = 1 := q
        rw [if_pos (abvI_t (by omega))] at he
        exact bX12_lastAbove_13 hn ⟨by decide, fun _ => by rw [he]; exact h, fun q => absurd q (by decide)⟩
  exact wX12_lastAbove hn ⟨by omega, key _ x rfl hx hc ht rfl⟩
/-- the span from the last rod above x and y down to x -/
def mAB (a : Hp) (x y : Nat) : Int × Int × Int := msr a (la (a 60) y 60 x) 60 x (1, 0, 0)
def mBA (a : Hp) (x y : Nat) : Int × Int × Int := msr a (la (a 60) y 60 x) 60 y (1, 0, 0)
def lst (m : Int × Int × Int) : Int := max 0 (2 * m.2.2 - m.2.1)
abbrev tch (L : Int) (m m' : Int × Int × Int) : Prop := L ≤ m.2.1 + m'.2.1 ∧ lst m ≤ m'.2.1 + L ∧ lst m' ≤ m.2.1 + L
def tc (a : Hp) (x y : Nat) : Int := if tch (a 59 (la (a 60) y 60 x).toNat) (mAB a x y) (mBA a x y) then 1 else 0
def nr (a : Hp) (x y : Nat) : Int := if (mAB a x y).1 = 0 ∨ (mBA a x y).1 = 0 then -1 else tc a x y
theorem Ka.rz {G : Hp} (h : Ka g G) : rz G = rz g := rz_eq fun i q hl => h i q (by unfold rl at hl; simp at hl; omega)
theorem Ka.trans {G H : Hp} (h : Ka g G) (h' : Ka G H) : Ka g H := fun i q hi => (h' i q hi).trans (h i q hi)
theorem sp_near {x y : Nat} (hn : 100 ≤ n) (hI : Inv g) (h2 : Two g x y) (h : ∀ g', Ka g g' → P (some (I_ (nr g x y))) n (W0 dy) g') : Runs miX12_near (d + 2) [.ref 53, I_ (x : Int), I_ (y : Int)] n (W0 dy) g P := by
  have hN := hI.1
  obtain ⟨dp, hD⟩ := hI.dp
  obtain ⟨r, r1, r2, r3, r4, r5, r6, r7⟩ := h2.la hI
  obtain ⟨hx, hy, hne⟩ := h2.1
  have t := abv_top hD hI.1.2 _ y rfl hy
  rw [← h2.2.2] at t
  have eA : mAB g x y = msr g (r : Int) 60 x (1, 0, 0) := by unfold mAB; rw [r1]
  have eB : mBA g x y = msr g (r : Int) 60 y (1, 0, 0) := by unfold mBA; rw [r1]
  have bA := msr_b0 hI (s := (r : Int)) hx
  have bB := msr_b0 hI (s := (r : Int)) hy
  rw [← eA] at bA
  rw [← eB] at bB
  have e59 : tc g x y = if tch (g 59 r) (mAB g x y) (mBA g x y) then 1 else 0 := by unfold tc; rw [r1]; rfl
  have rb := (rod_b hI r2 r7).1
  refine wX12_near hn (sp_lastAbove hn hI hx hy (h2.on hI) t ?_)
  rw [r1]
  refine bX12_near_6 hn (rs_arms hn hI hx r2 r3 (Or.inl rfl) (fun _ e => r5 e.symm) fun g1 k1 m1 => bX12_near_14 hn ?_)
  rw [if_pos rfl, ← eA] at m1
  obtain ⟨m11, m12, m13⟩ := m1
  rw [m11]
  refine wX12_armsLeast hn ⟨⟨by rw [m12, m13]; omega, by rw [m12, m13]; omega⟩, bX12_near_24 hn ?_⟩
  have hI1 : Inv g1 := hI.cg k1.rz
  have f5 : g1 53 5 = g 53 5 := k1 53 5 (by omega)
  have f60 : g1 60 = g 60 := funext fun q => k1 60 q (by omega)
  rw [m12, m13]
  refine rs_arms hn hI1 (by omega) (by omega) (by rw [f60]; exact r4) (Or.inl rfl) (fun _ e => r6 e.symm) fun g2 k2 m2 => ?_
  rw [if_pos rfl, msr_cg k1.rz, ← eB] at m2
  obtain ⟨m21, m22, m23⟩ := m2
  have k := k1.trans k2
  have hw : ∀ v : Int, nr g x y = v → P (some (I_ v)) n (W0 dy) g2 := fun v e => by rw [← e]; exact h g2 k
  have un : nr g x y = if (mAB g x y).1 = 0 ∨ (mBA g x y).1 = 0 then -1 else tc g x y := rfl
  generalize mAB g x y = A at *
  generalize mBA g x y = B at *
  refine bX12_near_39 hn ⟨⟨by omega, by omega⟩, fun q => hw _ (by rw [un, if_pos (Or.inl q)]), fun q => ⟨fun q2 => ?_, fun q2 => hw _ (by rw [un, if_pos (Or.inr (by omega))])⟩⟩
  rw [if_neg (by omega)] at un
  refine wX12_armsLeast hn ⟨⟨by rw [m22, m23]; omega, by rw [m22, m23]; omega⟩, ?_⟩
  rw [m22, m23]
  have g59 : g2 59 ((r : Nat) : Int).toNat = g 59 r := k 59 r (by omega)
  have lA : lst A = max 0 (2 * A.2.2 - A.2.1) := rfl
  have lB : lst B = max 0 (2 * B.2.2 - B.2.1) := rfl
  rw [← lA, ← lB]
  have lA' : 0 ≤ lst A ∧ lst A ≤ 2000 := by rw [lA]; omega
  have lB' : 0 ≤ lst B ∧ lst B ≤ 2000 := by rw [lB]; omega
  clear lA lB
  rw [e59] at un
  have no : ¬ tch (g 59 r) A B → nr g x y = 0 := fun z => by rw [un, if_neg z]
  refine bX12_near_57 hn ⟨by omega, ?_⟩
  rw [m22, g59]
  refine ⟨⟨by omega, by omega⟩, fun z => hw 0 (no fun w => ?_), fun z1 => ⟨⟨by omega, by omega⟩, fun z => hw 0 (no fun w => ?_), fun z2 => ⟨⟨by omega, by omega⟩, fun z => hw 0 (no fun w => ?_), fun z3 => hw 1 ?_⟩⟩⟩
  · have := w.1; omega
  · have := w.2.1; omega
  · have := w.2.2; omega
  · rw [un, if_pos ⟨z1, by omega, by omega⟩]
theorem msr_row {g g1 : Hp} (e59 : g1 59 = g 59) (e60 : g1 60 = g 60) (e61 : g1 61 = g 61) (e64 : g1 64 = g 64) (e65 : g1 65 = g 65) (s : Int) : ∀ (f k : Nat) (t : Int × Int × Int), msr g1 s f k t = msr g s f k t
  | 0, _, _ => rfl
  | f + 1, k, t => by
    show (if g1 60 k < 0 ∨ g1 60 k = s then t else msr g1 s f (g1 60 k).toNat _) = if g 60 k < 0 ∨ g 60 k = s then t else msr g s f (g 60 k).toNat _
    unfold whI armI
    rw [msr_row e59 e60 e61 e64 e65 s f, e59, e60, e61, e64, e65]
theorem nr_st (a : Hp) (w : Int) (x y : Nat) : nr (up2 a 53 0 w) x y = nr a x y := by
  unfold nr tc mAB mBA
  rw [msr_row (g1 := up2 a 53 0 w) (g := a) rfl rfl rfl rfl rfl, msr_row (g1 := up2 a 53 0 w) (g := a) rfl rfl rfl rfl rfl]
  rfl
end Near
