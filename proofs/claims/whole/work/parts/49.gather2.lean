/-! GATHERING: the loop over the members -/
section Gather2
variable {d n : Nat} {dy : Nat → Shp} {g a : Hp} {P : Pst}
theorem nd_inj : ∀ {l : List Nat} {m m' j : Nat}, l.Nodup → l[m]? = some j → l[m']? = some j → m = m'
  | [], m, m', j, _, h, _ => by simp at h
  | y :: l, 0, 0, j, _, _, _ => rfl
  | y :: l, 0, m' + 1, j, hd, h, h' => by
    have e : y = j := by simpa using h
    have := List.mem_of_getElem? (show l[m']? = some j by simpa using h')
    rw [← e] at this
    exact absurd this (List.nodup_cons.mp hd).1
  | y :: l, m + 1, 0, j, hd, h, h' => by
    have e : y = j := by simpa using h'
    have := List.mem_of_getElem? (show l[m]? = some j by simpa using h)
    rw [← e] at this
    exact absurd this (List.nodup_cons.mp hd).1
  | y :: l, m + 1, m' + 1, j, hd, h, h' => by
    have := nd_inj (List.nodup_cons.mp hd).2 (show l[m]? = some j by simpa using h) (show l[m']? = some j by simpa using h')
    omega
/-- k0 comes first; every other one behind the one it hangs on, which is among the first i -/
def BQ (a : Hp) (k0 i : Nat) (l : List Nat) : Prop := l[0]? = some k0 ∧ ∀ m j : Nat, l[m]? = some j → 0 < m → 0 ≤ a 60 j ∧ ∃ m', m' < i ∧ m' < m ∧ l[m']? = some (a 60 j).toNat
/-- what hangs on the first i is there -/
def CL (a : Hp) (i : Nat) (l : List Nat) : Prop := ∀ m j : Nat, m < i → l[m]? = some j → (0 ≤ a 66 j → (a 66 j).toNat ∈ l) ∧ (0 ≤ a 67 j → (a 67 j).toNat ∈ l)
theorem BQ.mono {k0 i i' : Nat} {l : List Nat} (h : BQ a k0 i l) (hi : i ≤ i') : BQ a k0 i' l := ⟨h.1, fun m j h1 h2 => by
  obtain ⟨b1, m', b2, b3, b4⟩ := h.2 m j h1 h2
  exact ⟨b1, m', by omega, b3, b4⟩⟩
theorem BQ.app {k0 i j x : Nat} {l : List Nat} (h : BQ a k0 (i + 1) l) (hi : l[i]? = some j) (hx : a 60 x = (j : Int)) : BQ a k0 (i + 1) (l ++ [x]) := by
  have hl : i < l.length := (List.getElem?_eq_some_iff.mp hi).1
  refine ⟨by rw [List.getElem?_append_left (by omega)]; exact h.1, fun m y h1 h2 => ?_⟩
  by_cases c : m < l.length
  · rw [List.getElem?_append_left c] at h1
    obtain ⟨b1, m', b2, b3, b4⟩ := h.2 m y h1 h2
    exact ⟨b1, m', b2, b3, by rw [List.getElem?_append_left (by omega)]; exact b4⟩
  · have h9 := (List.getElem?_eq_some_iff.mp h1).1
    rw [List.length_append, List.length_singleton] at h9
    have em : m = l.length := by omega
    rw [em, List.getElem?_append_right (Nat.le_refl _), Nat.sub_self] at h1
    have ey : x = y := by simpa using h1
    rw [← ey, hx]
    exact ⟨by omega, i, by omega, by omega, by rw [List.getElem?_append_left hl]; exact hi⟩
theorem BQ.fresh {k0 i j x : Nat} {l : List Nat} {G : Hp} {dp : Nat → Nat} (h : BQ a k0 i l) (hG : GS g a G k0 l) (hI : Inv a) (hD : DP (a 53 5) (a 60) dp) (hi : l[i]? = some j) (hxN : (x : Int) < a 53 5) (hx : a 60 x = (j : Int)) : x ∉ l := by
  intro hm
  obtain ⟨m, hm⟩ := List.getElem?_of_mem hm
  have hj := List.mem_of_getElem? hi
  obtain ⟨⟨j1, j2⟩, -⟩ := hG.2.2.2.2 j hj
  by_cases c : m = 0
  · rw [c, h.1] at hm
    have e : k0 = x := by simpa using hm
    have h2 := (hD x hxN).2.2.2 (by omega)
    rw [hx] at h2
    have h2 : dp x = dp j + 1 := h2
    by_cases e2 : j = k0
    · rw [e2, e] at h2; omega
    · have := (abv_dp hD hI.1.2 (dp j) j rfl j1 j2 e2).1
      rw [e] at this; omega
  · obtain ⟨b1, m', b2, b3, b4⟩ := h.2 m x hm (by omega)
    rw [hx] at b4
    have := nd_inj hG.2.1.2.2 (show l[m']? = some j from b4) hi
    omega
/-- a side of a member is gathered -/
theorem add_side {k0 j : Nat} {l : List Nat} {G : Hp} {s : Int} (hG : GS g a G k0 l) (hC : Ca n dy g a) (hI : Inv a) (h0 : l ≠ []) (hj : j ∈ l) (hs : -1 ≤ s ∧ s < a 53 5) (hon : 0 ≤ s → a 60 s.toNat = (j : Int)) (hfr : 0 ≤ s → s.toNat ∉ l)
    (hno : s < 0 → P none n (W0 dy) G) (hyes : 0 ≤ s → ∀ G', GS g a G' k0 (l ++ [s.toNat]) → P none n (W0 dy) G') : Runs miX1_add (d + 1) [.ref 4, .ref (rfx (g 3) s).toNat, I_ (G (g 3 j).toNat 7), L_ (G (g 3 j).toNat 6)] n (W0 dy) G P := by
  have hn := hC.1
  have hN := hI.1.2
  obtain ⟨dp, hD⟩ := hI.dp
  by_cases c : s < 0
  · rw [show rfx (g 3) s = 0 from if_pos c]
    exact cs_add0 hn (hno c)
  · rw [show rfx (g 3) s = g 3 s.toNat from if_neg c]
    have hs0 : 0 ≤ s := by omega
    have hon := hon hs0
    have hfr := hfr hs0
    have hyes := hyes hs0
    have hx : ((s.toNat : Nat) : Int) < a 53 5 := by omega
    generalize s.toNat = x at *
    obtain ⟨⟨j1, j2⟩, j7, j6, j8, j9⟩ := hG.2.2.2.2 j hj
    have hCG := hG.ca hC
    have e3 : G 3 x = g 3 x := hG.1 3 x (by decide) (by decide) (Or.inl (by decide))
    have hab : abv (a 60) k0 60 x = true := by
      rw [abv_eq hD hN hx]
      by_cases e : x = k0
      · rw [if_pos e]
      · rw [if_neg e, if_neg (by omega), hon]; exact j2
    have hh : hgt (a 60) (a 62) 60 x = a 62 x + hgt (a 60) (a 62) 60 j := by
      rw [hgt_eq hD hN hx, if_neg (by omega), hon]; rfl
    have tb : ∀ k : Nat, (k : Int) < a 53 5 → 0 ≤ a 60 k → 0 ≤ a 62 k ∧ a 62 k ≤ 1000 := fun k hk hz => by
      have := ((hI.2.2.1 k hk).1.2.2.1 hz).1; omega
    have rhj : 0 ≤ rh a k0 j ∧ rh a k0 j ≤ 60000 := by
      have q1 := hgt_b hD tb 60 j j1
      have key : ∀ (f y : Nat), dp y = f → (y : Int) < a 53 5 → abv (a 60) k0 60 y = true → hgt (a 60) (a 62) 60 k0 ≤ hgt (a 60) (a 62) 60 y := by
        intro f
        induction f with
        | zero =>
          intro y hf hy hab9
          by_cases e : y = k0
          · rw [e]; exact Int.le_refl _
          · have := (abv_dp hD hN 0 y hf hy hab9 e).1; omega
        | succ f ih =>
          intro y hf hy hab9
          by_cases e : y = k0
          · rw [e]; exact Int.le_refl _
          · obtain ⟨b1, b2, b3⟩ := abv_dp hD hN (f + 1) y hf hy hab9 e
            have hd := (hD y hy).2.2.2 b2
            have hb := (hD y hy).1
            have := ih (a 60 y).toNat (by omega) (by omega) b3
            have t := tb y hy b2
            rw [hgt_eq hD hN hy, if_neg (by omega)]
            omega
      have q2 := key _ j rfl j1 j2
      have q3 : 0 ≤ hgt (a 60) (a 62) 60 k0 := by
        by_cases z : (k0 : Int) < a 53 5
        · exact (hgt_b hD tb 60 k0 z).1
        · have kk : ∀ (f y : Nat), dp y = f → (y : Int) < a 53 5 → abv (a 60) k0 60 y = true → (k0 : Int) < a 53 5 := by
            intro f
            induction f with
            | zero =>
              intro y hf hy hab9
              by_cases e : y = k0
              · rw [← e]; exact hy
              · have := (abv_dp hD hN 0 y hf hy hab9 e).2.1
                have := (hD y hy).2.2.2 this; omega
            | succ f ih =>
              intro y hf hy hab9
              by_cases e : y = k0
              · rw [← e]; exact hy
              · obtain ⟨b1, b2, b3⟩ := abv_dp hD hN (f + 1) y hf hy hab9 e
                have hd := (hD y hy).2.2.2 b2
                have hb := (hD y hy).1
                exact ih (a 60 y).toNat (by omega) (by omega) b3
          exact absurd (kk _ j rfl j1 j2) z
      unfold rh
      omega
    obtain ⟨hl, hGS⟩ := hG.add (x := x) (H := G (g 3 j).toNat 7 + a 62 x) (p := G (g 3 j).toNat 6) hC hI hx hfr hab (by rw [j7]; unfold rh; rw [hh]; omega) (fun i hi => by
      rw [hb_or (by omega) hi, j6 i hi]
      have ea : abv (a 60) i 60 x = if x = i then true else abv (a 60) i 60 j := by
        rw [abv_eq hD hN hx]
        by_cases e : x = i
        · rw [if_pos e, if_pos e]
        · rw [if_neg e, if_neg e, if_neg (by omega), hon]; rfl
      rw [ea]
      by_cases e : x = i
      · rw [if_pos e]
        exact ⟨fun _ => ⟨by rw [← e]; exact hx, rfl, by rw [← e]; exact hab⟩, fun _ => Or.inr e⟩
      · rw [if_neg e]
        exact ⟨fun h => h.elim id (fun z => absurd z e), Or.inl⟩)
    have hlen0 : 0 < l.length := List.length_pos_iff.mpr h0
    have hm1 := hG.2.1.1
    rw [← e3] at hGS ⊢
    refine cs_add hCG hI hx ⟨by omega, by omega⟩ (by rw [j7]; omega) ?_
    rw [if_neg (by omega)]
    exact hyes _ hGS
end Gather2
