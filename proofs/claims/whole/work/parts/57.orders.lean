/-! ORDERS: the reference's order, what hangs ahead of what it hangs on -/
theorem sumL_len : ∀ l : List Nat, sumL (fun _ => 1) l = (l.length : Int)
  | [] => rfl
  | y :: l => by
    show 1 + sumL (fun _ => 1) l = ((l.length + 1 : Nat) : Int)
    rw [sumL_len l]; omega
theorem sumN_ones : ∀ n, sumN (fun _ => 1) n = (n : Int)
  | 0 => rfl
  | n + 1 => by
    show sumN (fun _ => 1) n + 1 = ((n + 1 : Nat) : Int)
    rw [sumN_ones n]; omega
theorem nd_le {l : List Nat} {n : Nat} (hd : l.Nodup) (hb : ∀ y, y ∈ l → y < n) : l.length ≤ n := by
  have e := sumL_in (fun _ => 1) n l hd hb
  rw [sumL_len] at e
  have := (sumN_b (f := fun y => if y ∈ l then 1 else 0) (B := 1) n (fun y _ => by show (0 : Int) ≤ (if y ∈ l then 1 else 0) ∧ (if y ∈ l then (1 : Int) else 0) ≤ 1; split <;> omega)).2
  omega
theorem nd_full {l : List Nat} {n : Nat} (hd : l.Nodup) (hb : ∀ y, y ∈ l ↔ y < n) : l.length = n := by
  have e := sumL_in (fun _ => 1) n l hd (fun y hy => (hb y).mp hy)
  rw [sumL_len, sumN_cg n (h := fun _ => 1) (fun y hy => if_pos ((hb y).mpr hy)), sumN_ones] at e
  omega
section Orders
variable {d n : Nat} {dy : Nat → Shp} {g : Hp} {P : Pst}
/-- the order r lies in row 71 of G -/
def OD (g G : Hp) (r : List Nat) : Prop := (r.length : Int) = g 53 5 ∧ (∀ m y : Nat, r[m]? = some y → G 71 m = (y : Int)) ∧ (∀ y : Nat, y ∈ r ↔ (y : Int) < g 53 5) ∧ (∀ m y z : Nat, r[m]? = some y → (z : Int) < g 53 5 → g 60 z = (y : Int) → z ∈ r.take m) ∧ r.Nodup
theorem rs_orders (hn : 100 ≤ n) (hF : RF g) (h : ∀ (G : Hp) (r : List Nat), (∀ i q, i ≠ 71 → i ≠ 72 → G i q = g i q) → OD g G r → P none n (W0 dy) G) : Runs miX12_orders d [.ref 53] n (W0 dy) g P := by
  obtain ⟨hN, dp, hD⟩ := hF
  -- the list
  have two : ∀ (G0 : Hp), (∀ i q, i ≠ 71 → i ≠ 72 → G0 i q = g i q) → (∀ y : Nat, (y : Int) < g 53 5 → G0 72 y = (dp y : Int)) → V miX12_orders d 59 [(0, .ref 53), (1, I_ 0), (2, I_ 60)] [] n (W0 dy) G0 0 0 P := by
    intro G0 hG0 h72
    have inner : ∀ (t i D : Nat) (G : Hp) (r : List Nat), (t : Int) + i = g 53 5 → D ≤ 60 → (∀ i q, i ≠ 71 → G i q = G0 i q) → r.Nodup → (∀ m y : Nat, r[m]? = some y → G 71 m = (y : Int)) → (∀ y : Nat, y ∈ r ↔ ((y : Int) < g 53 5 ∧ (D < dp y ∨ (dp y = D ∧ y < i)))) → (∀ m y z : Nat, r[m]? = some y → (z : Int) < g 53 5 → g 60 z = (y : Int) → z ∈ r.take m) → (∀ (G' : Hp) (r' : List Nat), (∀ i q, i ≠ 71 → G' i q = G0 i q) → r'.Nodup → (∀ m y : Nat, r'[m]? = some y → G' 71 m = (y : Int)) → (∀ y : Nat, y ∈ r' ↔ ((y : Int) < g 53 5 ∧ D ≤ dp y)) → (∀ m y z : Nat, r'[m]? = some y → (z : Int) < g 53 5 → g 60 z = (y : Int) → z ∈ r'.take m) → V miX12_orders d 59 [(0, .ref 53), (1, I_ (r'.length : Int)), (2, I_ ((D : Int) + (-1)))] [] n (W0 dy) G' 0 0 P) → V miX12_orders d 65 [(0, .ref 53), (1, I_ (r.length : Int)), (2, I_ (D : Int)), (3, I_ (i : Int))] [] n (W0 dy) G 0 0 P := by
      intro t
      induction t with
      | zero =>
        intro i D G r hi hDl hG nd h71 hm hc hp
        have e5 : G 53 5 = g 53 5 := (hG 53 5 (by omega)).trans (hG0 53 5 (by omega) (by omega))
        refine bX12_orders_65 hn ⟨⟨by omega, by omega⟩, fun _ => hp G r hG nd h71 (fun y => ?_) hc, fun q => by omega⟩
        rw [hm y]
        exact ⟨fun q => ⟨q.1, by omega⟩, fun q => ⟨q.1, by omega⟩⟩
      | succ t ih =>
        intro i D G r hi hDl hG nd h71 hm hc hp
        have e5 : G 53 5 = g 53 5 := (hG 53 5 (by omega)).trans (hG0 53 5 (by omega) (by omega))
        have e72 : G 72 ((i : Nat) : Int).toNat = (dp i : Int) := (hG 72 i (by omega)).trans (h72 i (by omega))
        have rl := nd_le (n := (g 53 5).toNat) nd (fun y hy => by have := ((hm y).mp hy).1; omega)
        refine bX12_orders_65 hn ⟨⟨by omega, by omega⟩, fun q => by omega, fun _ => ⟨by omega, ⟨by omega, by omega⟩, fun q => ?_, fun q => ?_⟩⟩
        · rw [e72] at q
          have qd : dp i = D := by omega
          have ni : i ∉ r := fun z => by have := ((hm i).mp z).2; omega
          have nd' : (r ++ [i]).Nodup := List.nodup_append.mpr ⟨nd, by simp, fun x hx y hy => by
            have : y = i := by simpa using hy
            rw [this]; exact fun z => ni (z ▸ hx)⟩
          have rl' := nd_le (n := (g 53 5).toNat) nd' (fun y hy => by
            rcases List.mem_append.mp hy with z | z
            · have := ((hm y).mp z).1; omega
            · have : y = i := by simpa using z
              omega)
          rw [List.length_append] at rl'
          have rl' : r.length + 1 ≤ (g 53 5).toNat := rl'
          refine ⟨by omega, ?_⟩
          rw [show (r.length : Int) + 1 = ((r ++ [i]).length : Int) by rw [List.length_append]; rfl, show ((i : Nat) : Int) + 1 = ((i + 1 : Nat) : Int) by omega]
          have at' : ∀ m y : Nat, (r ++ [i])[m]? = some y → (m < r.length ∧ r[m]? = some y) ∨ (m = r.length ∧ y = i) := fun m y hy => by
            by_cases c : m < r.length
            · rw [List.getElem?_append_left c] at hy; exact Or.inl ⟨c, hy⟩
            · rw [List.getElem?_append_right (by omega)] at hy
              have hlt := (List.getElem?_eq_some_iff.mp hy).1
              have hlt : m - r.length < 1 := hlt
              have e : m - r.length = 0 := by omega
              rw [e] at hy
              exact Or.inr ⟨by omega, by simpa using hy.symm⟩
          refine ih (i + 1) D _ (r ++ [i]) (by omega) hDl (fun x q hx => ?_) nd' (fun m y hy => ?_) (fun y => ?_) (fun m y z hy hz ez => ?_) hp
          · rw [up2_i hx]; exact hG x q hx
          · rw [up2_ap]
            show (if 71 = 71 ∧ m = r.length then (i : Int) else G 71 m) = _
            rcases at' m y hy with ⟨c, e⟩ | ⟨c, e⟩
            · rw [if_neg (by omega)]; exact h71 m y e
            · rw [if_pos ⟨rfl, c⟩, e]
          · rw [List.mem_append, hm y, List.mem_singleton]
            refine ⟨fun z => ?_, fun z => ?_⟩
            · rcases z with z | z
              · exact ⟨z.1, by omega⟩
              · rw [z]; exact ⟨by omega, by omega⟩
            · by_cases c : y = i
              · exact Or.inr c
              · exact Or.inl ⟨z.1, by omega⟩
          · rcases at' m y hy with ⟨c, e⟩ | ⟨c, e⟩
            · rw [List.take_append_of_le_length (by omega)]; exact hc m y z e hz ez
            · rw [c, List.take_left']
              · have hz2 := (hD z hz).2.2.2 (by omega)
                rw [ez, e] at hz2
                have hz2 : dp z = dp i + 1 := hz2
                exact (hm z).mpr ⟨hz, by omega⟩
              · rfl
        · rw [e72] at q
          rw [show ((i : Nat) : Int) + 1 = ((i + 1 : Nat) : Int) by omega]
          refine ih (i + 1) D G r (by omega) hDl hG nd h71 (fun y => ?_) hc hp
          rw [hm y]
          refine ⟨fun z => ⟨z.1, by omega⟩, fun z => ⟨z.1, ?_⟩⟩
          by_cases c : y = i
          · rw [c] at z ⊢; omega
          · omega
    have outer : ∀ (D : Nat) (G : Hp) (r : List Nat), D ≤ 61 → (∀ i q, i ≠ 71 → G i q = G0 i q) → r.Nodup → (∀ m y : Nat, r[m]? = some y → G 71 m = (y : Int)) → (∀ y : Nat, y ∈ r ↔ ((y : Int) < g 53 5 ∧ D ≤ dp y)) → (∀ m y z : Nat, r[m]? = some y → (z : Int) < g 53 5 → g 60 z = (y : Int) → z ∈ r.take m) → V miX12_orders d 59 [(0, .ref 53), (1, I_ (r.length : Int)), (2, I_ ((D : Int) + (-1)))] [] n (W0 dy) G 0 0 P := by
      intro D
      induction D with
      | zero =>
        intro G r hDl hG nd h71 hm hc
        refine bX12_orders_59 hn ⟨by decide, fun _ => h G r (fun i q h1 h2 => (hG i q h1).trans (hG0 i q h1 h2)) ⟨?_, h71, fun y => ?_, hc, nd⟩, fun q => by omega⟩
        · have := nd_full (n := (g 53 5).toNat) nd (fun y => by rw [hm y]; omega)
          omega
        · rw [hm y]; omega
      | succ D ih =>
        intro G r hDl hG nd h71 hm hc
        rw [show ((D + 1 : Nat) : Int) + (-1) = (D : Int) by omega]
        refine bX12_orders_59 hn ⟨⟨by omega, by omega⟩, fun q => by omega, fun _ => ?_⟩
        refine inner (g 53 5).toNat 0 D G r (by omega) (by omega) hG nd h71 (fun y => ?_) hc (fun G' r' a1 a2 a3 a4 a5 => ih G' r' (by omega) a1 a2 a3 a4 a5)
        rw [hm y]; omega
    exact outer 61 G0 [] (by omega) (fun _ _ _ => rfl) List.nodup_nil (fun m y hy => by simp at hy) (fun y => ⟨fun z => by simp at z, fun z => by have := (hD y z.1).2.1; omega⟩) (fun m y z hy => by simp at hy)
  -- the depths
  have one : ∀ (t i : Nat) (G : Hp), (t : Int) + i = g 53 5 → (∀ i q, i ≠ 71 → i ≠ 72 → G i q = g i q) → (∀ y : Nat, y < i → G 72 y = (dp y : Int)) → V miX12_orders d 2 [(0, .ref 53), (1, I_ (i : Int))] [] n (W0 dy) G 0 0 P := by
    intro t
    induction t with
    | zero =>
      intro i G hi hG hy
      have e5 := hG 53 5 (by omega) (by omega)
      exact bX12_orders_2 hn ⟨⟨by omega, by omega⟩, fun _ => two G hG (fun y hy2 => hy y (by omega)), fun q => by omega⟩
    | succ t ih =>
      intro i G hi hG hy
      have e5 := hG 53 5 (by omega) (by omega)
      have up : ∀ (f x : Nat) (G : Hp), dp x = f → (x : Int) < g 53 5 → (∀ i q, i ≠ 71 → i ≠ 72 → G i q = g i q) → (∀ y : Nat, y < i → G 72 y = (dp y : Int)) → G 72 i + dp x = dp i → V miX12_orders d 19 [(0, .ref 53), (1, I_ (i : Int)), (2, I_ (x : Int))] [] n (W0 dy) G 0 0 P := by
        intro f
        induction f with
        | zero =>
          intro x G hf hx hG hy he
          have e60 : G 60 ((x : Nat) : Int).toNat = g 60 x := hG 60 x (by omega) (by omega)
          refine bX12_orders_19 hn ⟨by omega, fun q => ?_, fun q => ?_⟩
          · rw [show ((i : Nat) : Int) + 1 = ((i + 1 : Nat) : Int) by omega]
            refine ih (i + 1) G (by omega) hG (fun y hy2 => ?_)
            by_cases c : y = i
            · rw [c]; omega
            · exact hy y (by omega)
          · rw [e60] at q
            have := (hD x hx).2.2.2 q; omega
        | succ f ihf =>
          intro x G hf hx hG hy he
          have e60 : G 60 ((x : Nat) : Int).toNat = g 60 x := hG 60 x (by omega) (by omega)
          have bi := (hD i (by omega)).2.1
          refine bX12_orders_19 hn ⟨by omega, fun q => ?_, fun q => ?_⟩
          · rw [e60] at q
            have := (hD x hx).2.2.1 q; omega
          · rw [e60] at q
            have hx2 := (hD x hx).2.2.2 q
            have hx1 := (hD x hx).1
            have bx := (hD x hx).2.1
            have e72 : G 72 ((i : Nat) : Int).toNat = G 72 i := rfl
            rw [e60, e72]
            refine ⟨by omega, ⟨by omega, by omega⟩, ?_⟩
            obtain ⟨p, ep⟩ := exN q
            rw [ep] at hx2 hx1 ⊢
            have hx2 : dp x = dp p + 1 := hx2
            refine ihf p _ (by omega) (by omega) (fun j q2 j1 j2 => ?_) (fun y hy2 => ?_) ?_
            · rw [up2_i j2]; exact hG j q2 j1 j2
            · rw [up2_ap]
              show (if 72 = 72 ∧ y = i then _ else G 72 y) = _
              rw [if_neg (by omega)]; exact hy y hy2
            · rw [up2_ap]
              show (if 72 = 72 ∧ i = i then G 72 i + 1 else G 72 i) + (dp p : Int) = dp i
              rw [if_pos ⟨rfl, rfl⟩]; omega
      refine bX12_orders_2 hn ⟨⟨by omega, by omega⟩, fun q => by omega, fun _ => ⟨by omega, ?_⟩⟩
      refine up _ i _ rfl (by omega) (fun j q j1 j2 => ?_) (fun y hy2 => ?_) ?_
      · rw [up2_i j2]; exact hG j q j1 j2
      · rw [up2_ap]
        show (if 72 = 72 ∧ y = i then _ else G 72 y) = _
        rw [if_neg (by omega)]; exact hy y hy2
      · rw [up2_ap]
        show (if 72 = 72 ∧ i = i then (0 : Int) else G 72 i) + (dp i : Int) = dp i
        rw [if_pos ⟨rfl, rfl⟩]; omega
  exact wX12_orders hn (one (g 53 5).toNat 0 g (by omega) (fun _ _ _ _ => rfl) (fun y hy => by omega))
end Orders
