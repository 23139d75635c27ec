/-! CLASHES: the reference's heights, its count -/
theorem hgt_b5 {N : Int} {on th : Nat → Int} {dp : Nat → Nat} (hD : DP N on dp) (ht : ∀ k : Nat, (k : Int) < N → 0 ≤ on k → 0 ≤ th k ∧ th k ≤ 1005) : ∀ (f k : Nat), (k : Int) < N → 0 ≤ hgt on th f k ∧ hgt on th f k ≤ 1005 * f
  | 0, k, _ => ⟨Int.le_refl _, Int.le_refl _⟩
  | f + 1, k, hk => by
    show 0 ≤ (if on k < 0 then 0 else th k + hgt on th f (on k).toNat) ∧ (if on k < 0 then 0 else th k + hgt on th f (on k).toNat) ≤ _
    by_cases c : on k < 0
    · rw [if_pos c]; omega
    · rw [if_neg c]
      have h1 := hgt_b5 hD ht f (on k).toNat (by have := (hD k hk).1; omega)
      have h2 := ht k hk (by omega)
      omega
theorem hgt_cg {N : Int} {on th th' : Nat → Int} {dp : Nat → Nat} (hD : DP N on dp) (ht : ∀ k : Nat, (k : Int) < N → th' k = th k) : ∀ (f k : Nat), (k : Int) < N → hgt on th' f k = hgt on th f k
  | 0, k, _ => rfl
  | f + 1, k, hk => by
    show (if on k < 0 then 0 else th' k + hgt on th' f (on k).toNat) = if on k < 0 then 0 else th k + hgt on th f (on k).toNat
    by_cases c : on k < 0
    · rw [if_pos c, if_pos c]
    · rw [if_neg c, if_neg c, ht k hk, hgt_cg hD ht f _ (by have := (hD k hk).1; omega)]
/-- the heights with threads lengthened by m -/
def hgtm (a : Hp) (m : Nat → Int) (y : Nat) : Int := hgt (a 60) (fun z => a 62 z + m z) 60 y
theorem cntP_cg {H H' : Nat → Int} : ∀ L : List (Nat × Nat), (∀ p, p ∈ L → H p.1 = H' p.1 ∧ H p.2 = H' p.2) → cntP H L = cntP H' L
  | [], _ => rfl
  | p :: L, h => by
    show (if H p.1 = H p.2 then 1 else 0) + cntP H L = (if H' p.1 = H' p.2 then 1 else 0) + cntP H' L
    rw [cntP_cg L (fun q hq => h q (List.mem_cons_of_mem _ hq)), (h p (List.mem_cons_self ..)).1, (h p (List.mem_cons_self ..)).2]
theorem dropP {α : Type} {l r : List α} {i : Nat} {y : α} (h : l.drop i = y :: r) : l[i]? = some y ∧ l.drop (i + 1) = r ∧ i < l.length := by
  have e : l[i]? = some y := by
    have := List.getElem?_drop (xs := l) (i := i) (j := 0)
    rw [h] at this
    simpa using this.symm
  refine ⟨e, ?_, (List.getElem?_eq_some_iff.mp e).1⟩
  rw [← List.drop_drop, h]; rfl
section Clashes4
variable {d n : Nat} {dy : Nat → Shp} {g a G : Hp} {P : Pst}
theorem sp_noMore (hn : 100 ≤ n) (hN : 0 ≤ g 53 5 ∧ g 53 5 ≤ 60) (h : ∀ G, (∀ i q, i ≠ 84 → G i q = g i q) → (∀ y : Nat, (y : Int) < g 53 5 → G 84 y = 0) → P none n (W0 dy) G) : Runs miX12_noMore d [.ref 53] n (W0 dy) g P := by
  have key : ∀ (t i : Nat) (G : Hp), (t : Int) + i = g 53 5 → (∀ i q, i ≠ 84 → G i q = g i q) → (∀ y : Nat, y < i → G 84 y = 0) → V miX12_noMore d 2 [(0, .ref 53), (1, I_ (i : Int))] [] n (W0 dy) G 0 0 P := by
    intro t
    induction t with
    | zero =>
      intro i G hi hG hy
      have e5 := hG 53 5 (by decide)
      exact bX12_noMore_2 hn ⟨⟨by omega, by omega⟩, fun _ => h G hG (fun y hy2 => hy y (by omega)), fun q => by omega⟩
    | succ t ih =>
      intro i G hi hG hy
      have e5 := hG 53 5 (by decide)
      refine bX12_noMore_2 hn ⟨⟨by omega, by omega⟩, fun q => by omega, fun _ => ⟨by omega, ?_⟩⟩
      rw [show ((i : Nat) : Int) + 1 = ((i + 1 : Nat) : Int) by omega]
      refine ih (i + 1) _ (by omega) (fun x q hx => ?_) (fun y hy2 => ?_)
      · rw [up2_i hx]; exact hG x q hx
      · rw [up2_ap]
        show (if 84 = 84 ∧ y = i then 0 else G 84 y) = 0
        by_cases c : y = i
        · rw [if_pos ⟨rfl, c⟩]
        · rw [if_neg (fun z => c z.2)]; exact hy y (by omega)
  exact wX12_noMore hn (key (g 53 5).toNat 0 g (by omega) (fun _ _ _ => rfl) (fun y hy => by omega))
/-- what it hangs on comes later in the order -/
theorem OD.later {r : List Nat} {i y p : Nat} (hO : OD a G r) (e : r[i]? = some y) (hp : (p : Int) < a 53 5) (h : a 60 y = (p : Int)) : p ∈ r.drop (i + 1) := by
  obtain ⟨o1, o2, o3, o4, nd⟩ := hO
  have hy := (o3 y).mp (List.mem_of_getElem? e)
  obtain ⟨m, em⟩ := List.mem_iff_getElem?.mp ((o3 p).mpr hp)
  obtain ⟨j, ej⟩ := List.mem_iff_getElem?.mp (o4 m p y em hy h)
  rw [List.getElem?_take] at ej
  split at ej
  · rename_i c
    have il := (List.getElem?_eq_some_iff.mp e).1
    have ij := (List.getElem?_inj il nd).mp (e.trans ej.symm)
    have q := List.getElem?_drop (xs := r) (i := i + 1) (j := m - (i + 1))
    rw [show i + 1 + (m - (i + 1)) = m by omega, em] at q
    exact List.mem_of_getElem? q
  · exact absurd ej (by simp)
theorem sp_meets {r : List Nat} {L : List (Nat × Nat)} (hn : 100 ≤ n) (hI : Inv a) (hz : rz G = rz a) (hO : OD a G r) (hP : PA G L) (hL : ∀ p, p ∈ L → (p.1 : Int) < a 53 5 ∧ (p.2 : Int) < a 53 5) (hlen : L.length ≤ 1770) (hm : ∀ y : Nat, (y : Int) < a 53 5 → 0 ≤ G 84 y ∧ G 84 y ≤ 5) (h : ∀ G', (∀ i q, i ≠ 83 → G' i q = G i q) → P (some (I_ (cntP (hgtm a (G 84)) L))) n (W0 dy) G') : Runs miX12_meets d [.ref 53] n (W0 dy) G P := by
  have hN := hI.1
  obtain ⟨dp, hD⟩ := hI.dp
  have f5 : G 53 5 = a 53 5 := rz_of hz (i := 53) (q := 5) rfl
  have f60 : G 60 = a 60 := rz_row (i := 60) hz (fun _ => rfl)
  have f62 : G 62 = a 62 := rz_row (i := 62) hz (fun _ => rfl)
  have Hb : ∀ y : Nat, (y : Int) < a 53 5 → 0 ≤ hgtm a (G 84) y ∧ hgtm a (G 84) y ≤ 60300 := fun y hy => by
    have := hgt_b5 hD (th := fun z => a 62 z + G 84 z) (fun k hk c => by have h1 := ((hI.2.2.1 k hk).1.2.2.1 c).1; have h2 := hm k hk; show 0 ≤ a 62 k + G 84 k ∧ a 62 k + G 84 k ≤ 1005; omega) 60 y hy
    unfold hgtm
    omega
  have He : ∀ y : Nat, (y : Int) < a 53 5 → hgtm a (G 84) y = if a 60 y < 0 then 0 else a 62 y + G 84 y + hgtm a (G 84) (a 60 y).toNat := fun y hy => hgt_eq hD hN.2 hy
  generalize hgtm a (G 84) = H at *
  -- the count
  have two : ∀ G' : Hp, (∀ i q, i ≠ 83 → G' i q = G i q) → (∀ y : Nat, (y : Int) < a 53 5 → G' 83 y = H y) → ∀ (R : List (Nat × Nat)) (m : Nat) (x : Int), m ≤ L.length → L.drop m = R → x + cntP H R = cntP H L → V miX12_meets d 72 [(0, .ref 53), (1, I_ x), (2, I_ (m : Int))] [] n (W0 dy) G' 0 0 P := by
    intro G' hG' h83 R
    have e35 : G' 53 35 = (L.length : Int) := (hG' 53 35 (by decide)).trans hP.1
    induction R with
    | nil =>
      intro m x hml hr hx
      have hl := List.drop_eq_nil_iff.mp hr
      have hx : x + 0 = cntP H L := hx
      refine bX12_meets_72 hn ⟨⟨by omega, by omega⟩, fun _ => ?_, fun q => by omega⟩
      rw [show x = cntP H L by omega]; exact h G' hG'
    | cons p R ih =>
      intro m x hml hr hx
      obtain ⟨e, er, il⟩ := dropP hr
      obtain ⟨p1, p2⟩ := hL p (List.mem_of_getElem? e)
      obtain ⟨q1, q2⟩ := hP.2 m p e
      have r1 : G' 81 ((m : Nat) : Int).toNat = (p.1 : Int) := (hG' 81 m (by decide)).trans q1
      have r2 : G' 82 ((m : Nat) : Int).toNat = (p.2 : Int) := (hG' 82 m (by decide)).trans q2
      have hx : x + ((if H p.1 = H p.2 then 1 else 0) + cntP H R) = cntP H L := hx
      refine bX12_meets_72 hn ⟨⟨by omega, by omega⟩, fun q => by omega, fun _ => ⟨⟨by omega, by omega⟩, ?_⟩⟩
      rw [r1, r2, show ((m : Nat) : Int) + 1 = ((m + 1 : Nat) : Int) by omega]
      refine ⟨⟨by omega, by omega⟩, ⟨by omega, by omega⟩, fun z => ?_, fun z => ?_⟩
      · have z : G' 83 p.1 ≠ G' 83 p.2 := z
        rw [h83 _ p1, h83 _ p2] at z
        rw [if_neg z] at hx
        exact ih (m + 1) (x + 0) (by omega) er (by omega)
      · have z : G' 83 p.1 = G' 83 p.2 := z
        rw [h83 _ p1, h83 _ p2] at z
        rw [if_pos z] at hx
        exact ih (m + 1) (x + 1) (by omega) er (by omega)
  -- the heights
  have one : ∀ (i : Nat) (G' : Hp), i ≤ r.length → (∀ i q, i ≠ 83 → G' i q = G i q) → (∀ y, y ∈ r.drop i → G' 83 y = H y) → V miX12_meets d 7 [(0, .ref 53), (1, I_ ((i : Int) + (-1)))] [] n (W0 dy) G' 0 0 P := by
    intro i
    induction i with
    | zero =>
      intro G' hi hG' h83
      refine bX12_meets_7 hn ⟨by decide, fun _ => two G' hG' (fun y hy => h83 y ((hO.2.2.1 y).mpr hy)) L 0 0 (Nat.zero_le _) rfl (by omega), fun q => by omega⟩
    | succ i ih =>
      intro G' hi hG' h83
      have o1 := hO.1
      obtain ⟨y, ey⟩ : ∃ y, r[i]? = some y := ⟨r[i]'(by omega), List.getElem?_eq_some_iff.mpr ⟨by omega, rfl⟩⟩
      have hy := (hO.2.2.1 y).mp (List.mem_of_getElem? ey)
      have e71 : G' 71 ((i : Nat) : Int).toNat = (y : Int) := (hG' 71 i (by decide)).trans (hO.2.1 i y ey)
      have e60 : G' 60 y = a 60 y := (hG' 60 y (by decide)).trans (by rw [f60])
      have e62 : G' 62 y = a 62 y := (hG' 62 y (by decide)).trans (by rw [f62])
      have e84 : G' 84 y = G 84 y := hG' 84 y (by decide)
      have hd : r.drop i = y :: r.drop (i + 1) := by
        rw [List.drop_eq_getElem_cons (by omega)]
        rw [(List.getElem?_eq_some_iff.mp ey).2]
      have fin : ∀ v : Int, v = H y → V miX12_meets d 7 [(0, .ref 53), (1, I_ ((i : Int) + (-1)))] [] n (W0 dy) (up2 G' 83 y v) 0 0 P := fun v hv => by
        refine ih _ (by omega) (fun j q hj => ?_) (fun z hz => ?_)
        · rw [up2_i hj]; exact hG' j q hj
        · rw [up2_k]
          by_cases c : z = y
          · rw [if_pos c, c]; exact hv
          · rw [if_neg c]
            rw [hd] at hz
            exact h83 z ((List.mem_cons.mp hz).resolve_left c)
      have un := He y hy
      rw [show ((i + 1 : Nat) : Int) + (-1) = (i : Int) by omega]
      refine bX12_meets_7 hn ⟨⟨by omega, by omega⟩, fun q => by omega, fun _ => ⟨⟨by omega, by omega⟩, ?_⟩⟩
      rw [e71]
      show ((0 : Int) ≤ (y : Int) ∧ (y : Int) < 60) ∧ (0 ≤ G' 60 y → (0 ≤ G' 60 y ∧ G' 60 y < 60) ∧ ∀ y19 : Int, y19 = G' 83 (G' 60 y).toNat + G' 62 y + G' 84 y → i3 y19 ∧ V miX12_meets d 7 [(0, .ref 53), (1, I_ ((i : Int) + (-1)))] [] n (W0 dy) (up2 G' 83 y y19) 0 0 P) ∧ (G' 60 y < 0 → V miX12_meets d 7 [(0, .ref 53), (1, I_ ((i : Int) + (-1)))] [] n (W0 dy) (up2 G' 83 y 0) 0 0 P)
      rw [e60, e62, e84]
      have hon := (hD y hy).1
      refine ⟨⟨by omega, by omega⟩, fun c => ⟨⟨c, by omega⟩, fun v hv => ?_⟩, fun c => fin 0 ?_⟩
      · rw [if_neg (by omega)] at un
        obtain ⟨p, ep⟩ := exN c
        rw [ep] at hon hv un
        have un : H y = a 62 y + G 84 y + H p := un
        have hv : v = G' 83 p + a 62 y + G 84 y := hv
        rw [h83 p (hO.later ey hon.2 ep)] at hv
        have vy : v = H y := by omega
        have hb := Hb y hy
        exact ⟨⟨by omega, by omega⟩, fin v vy⟩
      · rw [if_pos c] at un; exact un.symm
  have o1 := hO.1
  refine wX12_meets hn ?_
  rw [show G 53 5 - 1 = ((r.length : Nat) : Int) + (-1) by omega]
  refine one r.length G (Nat.le_refl _) (fun _ _ _ => rfl) (fun y hy => ?_)
  rw [List.drop_length] at hy
  exact absurd hy (by simp)
theorem pin_rz {g1 : Hp} (h : rz g1 = rz g) (k x : Nat) : ∀ m, pin g1 k x m = pin g k x m
  | 0 => rfl
  | m + 1 => by
    unfold pin Wt
    rw [pin_rz h k x m, nr_rz h, la_rz h, rz_row (i := 57) h (fun _ => rfl)]
theorem pall_rz {g1 : Hp} (h : rz g1 = rz g) (k : Nat) : ∀ m, pall g1 k m = pall g k m
  | 0 => rfl
  | m + 1 => by
    unfold pall Wt
    rw [pall_rz h k m, pin_rz h, la_rz h, rz_row (i := 57) h (fun _ => rfl), rz_of h (i := 53) (q := 5) rfl]
theorem OD.mv {r : List Nat} {G' a' : Hp} (h : OD a G r) (e5 : a' 53 5 = a 53 5) (e60 : a' 60 = a 60) (e71 : G' 71 = G 71) : OD a' G' r := by
  unfold OD at h ⊢
  rw [e5, e60, e71]; exact h
theorem whT_i3 (a : Hp) (x1 : Int) : i3 (whT a x1) := by
  unfold whT topI
  repeat' split
  all_goals decide
/-- the state once the pairs are found -/
theorem rs_toPairs {k : Nat} {G : Hp} {Q : Pst} (hn : 100 ≤ n) (hI : Inv a) (h0 : a 60 k < 0) (hz : rz G = rz a) (hM : ∀ y : Nat, (y : Int) < a 53 5 → G 75 y = abvI (a 60) k y) (hQ : ∀ G2, Runs miX12_findPairs (d + 3) [.ref 53] n (W0 dy) G2 P → Q none n (W0 dy) G2) (h : ∀ (G3 : Hp) (r : List Nat), rz G3 = rz a → Kc G G3 → OD a G3 r → PA G3 (pall a k (a 53 5).toNat) → (∀ q, G3 75 q = G 75 q) → P none n (W0 dy) G3) : Runs miX12_orders (d + 3) [.ref 53] n (W0 dy) G Q := by
  have hIG := hI.cg hz
  have f5 : G 53 5 = a 53 5 := rz_of hz (i := 53) (q := 5) rfl
  have f60 : G 60 = a 60 := rz_row (i := 60) hz (fun _ => rfl)
  have hF : RF G := ⟨hIG.1, hIG.dp⟩
  refine rs_orders hn hF fun G2 r hG2 hO => hQ G2 ?_
  have hz2 : rz G2 = rz a := (rz_eq fun i q hl => hG2 i q (by unfold rl at hl; simp at hl; omega) (by unfold rl at hl; simp at hl; omega)).trans hz
  have g5 : G2 53 5 = a 53 5 := rz_of hz2 (i := 53) (q := 5) rfl
  have g60 : G2 60 = a 60 := rz_row (i := 60) hz2 (fun _ => rfl)
  refine sp_findPairs hn (hI.cg hz2) (k := k) (by rw [g60]; exact h0) (fun y hy => ?_) fun G3 hG3 hP => ?_
  · rw [hG2 75 y (by decide) (by decide), g60]; exact hM y (by omega)
  · rw [pall_rz hz2, g5] at hP
    refine h G3 r (hG3.rz.trans hz2) (fun i q hi => ?_) (hO.mv (by rw [f5]) (by rw [f60]) (funext fun q => hG3 71 q (by decide) (by decide) (Or.inl (by decide)))) hP (fun q => ?_)
    · exact (hG3 i q (by omega) (by omega) (by omega)).trans (hG2 i q (by omega) (by omega))
    · exact (hG3 75 q (by decide) (by decide) (Or.inl (by decide))).trans (hG2 75 q (by decide) (by decide))
end Clashes4
