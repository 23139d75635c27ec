/-! GATHERING: the members -/
section Gather
variable {d n : Nat} {dy : Nat → Shp} {g a : Hp} {P : Pst}
def rh (a : Hp) (k0 j : Nat) : Int := hgt (a 60) (a 62) 60 j - hgt (a 60) (a 62) 60 k0
/-- l: the members so far, in their order -/
def GS (g a G : Hp) (k0 : Nat) (l : List Nat) : Prop :=
  (∀ i q, i ≠ 4 → i ≠ 5 → (i < 100 ∨ q < 6 ∨ 10 ≤ q) → G i q = g i q) ∧ (G 4 1 = (l.length : Int) ∧ l.length ≤ 60 ∧ l.Nodup) ∧ (∀ (m j : Nat), l[m]? = some j → G 5 m = g 3 j) ∧ (∀ j : Nat, j < 60 → (hb (G 4 2) j ↔ j ∈ l)) ∧
  ∀ j : Nat, j ∈ l → ((j : Int) < a 53 5 ∧ abv (a 60) k0 60 j = true) ∧ G (g 3 j).toNat 7 = rh a k0 j ∧ (∀ i : Nat, i < 60 → (hb (G (g 3 j).toNat 6) i ↔ ((i : Int) < a 53 5 ∧ abv (a 60) i 60 j = true ∧ abv (a 60) k0 60 i = true))) ∧ G (g 3 j).toNat 8 = a 63 j ∧ G (g 3 j).toNat 9 = (if a 57 j = 1 then a 63 j else 0)
theorem GS.ca {G : Hp} {k0 : Nat} {l : List Nat} (hG : GS g a G k0 l) (hC : Ca n dy g a) : Ca n dy G a := hC.keep fun i q hi => hG.1 i q (by unfold cl at hi; omega) (by unfold cl at hi; omega) (by unfold cl at hi; omega)
theorem nodup_app {l : List Nat} {x : Nat} (h : l.Nodup) (hx : x ∉ l) : (l ++ [x]).Nodup := by
  rw [List.nodup_append]
  refine ⟨h, List.nodup_cons.mpr ⟨List.not_mem_nil, List.nodup_nil⟩, fun a ha b hb e => ?_⟩
  rw [List.mem_singleton] at hb
  subst hb e
  exact hx ha
theorem GS.add {G : Hp} {k0 x : Nat} {l : List Nat} {H p : Int} (hG : GS g a G k0 l) (hC : Ca n dy g a) (hI : Inv a) (hx : (x : Int) < a 53 5) (hxl : x ∉ l) (hab : abv (a 60) k0 60 x = true) (hH : H = rh a k0 x) (hp : ∀ i : Nat, i < 60 → (hb (or6 p (shl6 1 (x : Int))) i ↔ ((i : Int) < a 53 5 ∧ abv (a 60) i 60 x = true ∧ abv (a 60) k0 60 i = true))) : l.length < 60 ∧ GS g a (addS G (g 3 x).toNat x H p (a 63 x) (decide (a 57 x = 1))) k0 (l ++ [x]) := by
  obtain ⟨g1, ⟨g2, g3, g4⟩, g5, g6, g7⟩ := hG
  have hN := hI.1.2
  have bx := hC.cell hx
  have nd := nodup_app g4 hxl
  have hlen : (l ++ [x]).length ≤ 60 := by
    refine pigeon 60 _ nd (fun y hy => ?_)
    rcases List.mem_append.mp hy with h | h
    · have := (g7 y h).1.1; omega
    · rw [List.mem_singleton.mp h]; omega
  rw [List.length_append, List.length_singleton] at hlen
  have hl60 : l.length < 60 := by omega
  have eT : (G 4 1).toNat = l.length := by omega
  refine ⟨hl60, ?_⟩
  generalize hc : (g 3 x).toNat = c at *
  have c100 : 100 ≤ c := by omega
  have S : ∀ i q, addS G c x H p (a 63 x) (decide (a 57 x = 1)) i q = if i = 4 ∧ q = 2 then or6 (G 4 2) (shl6 1 (x : Int)) else if i = 4 ∧ q = 1 then G 4 1 + 1 else if i = 5 ∧ q = l.length then (c : Int) else if i = c ∧ q = 9 then (if a 57 x = 1 then a 63 x else 0) else if i = c ∧ q = 8 then a 63 x else if i = c ∧ q = 6 then or6 p (shl6 1 (x : Int)) else if i = c ∧ q = 7 then H else G i q := fun i q => by
    unfold addS
    rw [eT]
    simp only [up2_ap, decide_eq_true_eq]
  have oth : ∀ j : Nat, j ∈ l → ∀ q, addS G c x H p (a 63 x) (decide (a 57 x = 1)) (g 3 j).toNat q = G (g 3 j).toNat q := fun j hj q => by
    have hjN := (g7 j hj).1.1
    have bj := hC.cell hjN
    have hne : (g 3 j).toNat ≠ c := fun e => by
      rw [← hc] at e
      exact hxl ((hC.ne hjN hx).mp e ▸ hj)
    rw [S, if_neg (by omega), if_neg (by omega), if_neg (by omega), if_neg (fun z => hne z.1), if_neg (fun z => hne z.1), if_neg (fun z => hne z.1), if_neg (fun z => hne z.1)]
  refine ⟨fun i q h4 h5 h6 => ?_, ⟨?_, ?_, nd⟩, fun m j hm => ?_, fun j hj => ?_, fun j hj => ?_⟩
  · rw [S, if_neg (fun z => h4 z.1), if_neg (fun z => h4 z.1), if_neg (fun z => h5 z.1), if_neg (by omega), if_neg (by omega), if_neg (by omega), if_neg (by omega)]
    exact g1 i q h4 h5 h6
  · rw [S, if_neg (by omega), if_pos ⟨rfl, rfl⟩, g2, List.length_append, List.length_singleton]
    omega
  · rw [List.length_append, List.length_singleton]; exact hlen
  · rw [S, if_neg (by omega), if_neg (by omega)]
    by_cases e : m = l.length
    · rw [if_pos ⟨rfl, e⟩]
      rw [e, List.getElem?_append_right (Nat.le_refl _), Nat.sub_self] at hm
      have ej : x = j := by simpa using hm
      rw [← ej]
      have : (c : Int) = g 3 x := by rw [← hc]; exact Int.toNat_of_nonneg (by omega)
      exact this
    · have hlt : m < l.length := by
        have h9 := (List.getElem?_eq_some_iff.mp hm).1
        rw [List.length_append, List.length_singleton] at h9
        omega
      rw [if_neg (fun z => e z.2), if_neg (by omega), if_neg (by omega), if_neg (by omega), if_neg (by omega)]
      rw [List.getElem?_append_left hlt] at hm
      exact g5 m j hm
  · rw [S, if_pos ⟨rfl, rfl⟩, hb_or (by omega) hj, g6 j hj, List.mem_append, List.mem_singleton]
    exact ⟨fun h => h.imp id Eq.symm, fun h => h.imp id Eq.symm⟩
  · rcases List.mem_append.mp hj with h | h
    · rw [oth j h, oth j h, oth j h, oth j h]
      exact g7 j h
    · have ej := List.mem_singleton.mp h
      subst ej
      rw [hc]
      have s7 : addS G c j H p (a 63 j) (decide (a 57 j = 1)) c 7 = H := by
        rw [S, if_neg (by omega), if_neg (by omega), if_neg (by omega), if_neg (by omega), if_neg (by omega), if_neg (by omega), if_pos ⟨rfl, rfl⟩]
      have s6 : addS G c j H p (a 63 j) (decide (a 57 j = 1)) c 6 = or6 p (shl6 1 (j : Int)) := by
        rw [S, if_neg (by omega), if_neg (by omega), if_neg (by omega), if_neg (by omega), if_neg (by omega), if_pos ⟨rfl, rfl⟩]
      have s8 : addS G c j H p (a 63 j) (decide (a 57 j = 1)) c 8 = a 63 j := by
        rw [S, if_neg (by omega), if_neg (by omega), if_neg (by omega), if_neg (by omega), if_pos ⟨rfl, rfl⟩]
      have s9 : addS G c j H p (a 63 j) (decide (a 57 j = 1)) c 9 = if a 57 j = 1 then a 63 j else 0 := by
        rw [S, if_neg (by omega), if_neg (by omega), if_neg (by omega), if_pos ⟨rfl, rfl⟩]
      rw [s7, s6, s8, s9]
      exact ⟨⟨hx, hab⟩, hH, hp, rfl, rfl⟩
end Gather
