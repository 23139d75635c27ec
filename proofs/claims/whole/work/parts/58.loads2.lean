/-! LOADS: the reference's -/
section Loads2
variable {d n : Nat} {dy : Nat → Shp} {g : Hp} {P : Pst}
/-- what a part weighs, nothing if it is gone -/
def vg (g : Hp) (y : Nat) : Int := if g 76 y = 0 then g 63 y else 0
theorem vg_b (hI : Inv g) {y : Nat} (hy : (y : Int) < g 53 5) : 0 ≤ vg g y ∧ vg g y ≤ 16000000 := by
  have := (own_b hI hy).1
  unfold vg; split <;> omega
theorem up2_o {G : Hp} {y z : Nat} {v : Int} (h : z ≠ y) : up2 G 74 y v 74 z = G 74 z := if_neg fun e => h e.2
theorem up2_74 {G : Hp} {y : Nat} {v : Int} : up2 G 74 y v 74 y = v := if_pos ⟨rfl, rfl⟩
theorem rs_loads {r : List Nat} (hn : 100 ≤ n) (hI : Inv g) (hO : OD g g r) (h : ∀ G : Hp, (∀ i q, i ≠ 74 → G i q = g i q) → (∀ y : Nat, (y : Int) < g 53 5 → G 74 y = ld g (vg g) y) → P none n (W0 dy) G) : Runs miX12_loads d [.ref 53] n (W0 dy) g P := by
  have hN := hI.1
  obtain ⟨o1, o2, o3, o4, -⟩ := hO
  have key : ∀ (t i : Nat) (G : Hp), t + i = r.length → (∀ i q, i ≠ 74 → G i q = g i q) → (∀ y : Nat, y ∈ r.take i → G 74 y = ld g (vg g) y) → V miX12_loads d 2 [(0, .ref 53), (1, I_ (i : Int))] [] n (W0 dy) G 0 0 P := by
    intro t
    induction t with
    | zero =>
      intro i G hi hG hy
      have e5 := hG 53 5 (by omega)
      refine bX12_loads_2 hn ⟨⟨by omega, by omega⟩, fun _ => h G hG (fun y hy2 => hy y ?_), fun q => by omega⟩
      rw [List.take_of_length_le (by omega)]; exact (o3 y).mpr hy2
    | succ t ih =>
      intro i G hi hG hy
      have e5 := hG 53 5 (by omega)
      obtain ⟨y, ey⟩ : ∃ y, r[i]? = some y := ⟨r[i]'(by omega), List.getElem?_eq_some_iff.mpr ⟨by omega, rfl⟩⟩
      have hyr := List.mem_of_getElem? ey
      have hyN := (o3 y).mp hyr
      have hp := (hI.2.2.1 y hyN).1
      obtain ⟨l1, l2, l3⟩ := hp.2.2.2.1
      obtain ⟨r1, r2, r3⟩ := hp.2.2.2.2
      have e71 : G 71 ((i : Nat) : Int).toNat = (y : Int) := (hG 71 i (by omega)).trans (o2 i y ey)
      have ety : ((y : Nat) : Int).toNat = y := rfl
      have lds := ld_eq (v := vg g) hI hyN
      obtain ⟨dp, hD⟩ := hI.dp
      have sb : ∀ s : Int, 0 ≤ sd g (vg g) s ∧ sd g (vg g) s ≤ 960000000 := fun s => by
        have := ld_b hI (v := vg g) (B := 16000000) (by decide) (fun y hy => vg_b hI hy) s.toNat
        unfold sd
        split <;> omega
      have vb := vg_b hI hyN
      have side : ∀ s : Int, s < g 53 5 → (0 ≤ s → g 60 s.toNat = (y : Int)) → (s < 0 → sd g (vg g) s = 0) ∧ (0 ≤ s → s.toNat ≠ y ∧ G 74 s.toNat = sd g (vg g) s) := fun s hs hs2 => by
        refine ⟨fun z => if_neg (by omega), fun z => ?_⟩
        have hsN : ((s.toNat : Nat) : Int) < g 53 5 := by omega
        have q1 := hy _ (o4 i y s.toNat ey hsN (hs2 z))
        refine ⟨fun e => ?_, by rw [q1]; exact (if_pos z).symm⟩
        have := (hD s.toNat hsN).2.2.2 (by rw [hs2 z]; omega)
        rw [hs2 z, ety, e] at this
        omega
      obtain ⟨sl1, sl2⟩ := side (g 66 y) l2 (fun z => (l3 z).1)
      obtain ⟨sr1, sr2⟩ := side (g 67 y) r2 (fun z => (r3 z).1)
      have bl := sb (g 66 y)
      have br := sb (g 67 y)
      have fin : ∀ G' : Hp, (∀ i q, (i ≠ 74 ∨ q ≠ y) → G' i q = G i q) → G' 74 y = vg g y + sd g (vg g) (g 66 y) + sd g (vg g) (g 67 y) → V miX12_loads d 2 [(0, .ref 53), (1, I_ ((i : Int) + 1))] [] n (W0 dy) G' 0 0 P := fun G' k1 k2 => by
        rw [show ((i : Nat) : Int) + 1 = ((i + 1 : Nat) : Int) by omega]
        refine ih (i + 1) G' (by omega) (fun x q hx => (k1 x q (Or.inl hx)).trans (hG x q hx)) (fun z hz => ?_)
        by_cases c : z = y
        · rw [c, k2, lds]
        · rw [k1 74 z (Or.inr c)]
          rw [List.take_add_one, ey] at hz
          rcases List.mem_append.mp hz with q | q
          · exact hy z q
          · exact absurd (by simpa using q) c
      have u1 : ∀ (v : Int) (i q : Nat), (i ≠ 74 ∨ q ≠ y) → up2 G 74 y v i q = G i q := fun v i q z => if_neg (by omega)
      have u2 : ∀ (v w : Int) (i q : Nat), (i ≠ 74 ∨ q ≠ y) → up2 (up2 G 74 y v) 74 y w i q = G i q := fun v w i q z => (if_neg (by omega)).trans (u1 v i q z)
      have u3 : ∀ (v w x : Int) (i q : Nat), (i ≠ 74 ∨ q ≠ y) → up2 (up2 (up2 G 74 y v) 74 y w) 74 y x i q = G i q := fun v w x i q z => (if_neg (by omega)).trans (u2 v w i q z)
      have e66 := hG 66 y (by omega)
      have e67 := hG 67 y (by omega)
      have e76 := hG 76 y (by omega)
      have e63 := hG 63 y (by omega)
      have leaf : ∀ v : Int, v = vg g y → (((g 66 y) < 0) → (((g 67 y) < 0) → V miX12_loads d 2 [(0, .ref 53), (1, I_ ((i : Int) + 1))] [] n (W0 dy) (up2 G 74 y v) 0 0 P) ∧ ((0 ≤ g 67 y) → (0 ≤ g 67 y ∧ g 67 y < 60) ∧ ∀ y27 : Int, y27 = (up2 G 74 y v) 74 y + (up2 G 74 y v) 74 (g 67 y).toNat → (i6 y27) ∧ V miX12_loads d 2 [(0, .ref 53), (1, I_ ((i : Int) + 1))] [] n (W0 dy) (up2 (up2 G 74 y v) 74 y y27) 0 0 P)) ∧ ((0 ≤ g 66 y) → (0 ≤ g 66 y ∧ g 66 y < 60) ∧ ∀ y36 : Int, y36 = (up2 G 74 y v) 74 y + (up2 G 74 y v) 74 (g 66 y).toNat → (i6 y36) ∧ (((g 67 y) < 0) → V miX12_loads d 2 [(0, .ref 53), (1, I_ ((i : Int) + 1))] [] n (W0 dy) (up2 (up2 G 74 y v) 74 y y36) 0 0 P) ∧ ((0 ≤ g 67 y) → (0 ≤ g 67 y ∧ g 67 y < 60) ∧ ∀ y48 : Int, y48 = (up2 (up2 G 74 y v) 74 y y36) 74 y + (up2 (up2 G 74 y v) 74 y y36) 74 (g 67 y).toNat → (i6 y48) ∧ V miX12_loads d 2 [(0, .ref 53), (1, I_ ((i : Int) + 1))] [] n (W0 dy) (up2 (up2 (up2 G 74 y v) 74 y y36) 74 y y48) 0 0 P)) := fun v hv => by
        refine ⟨fun a1 => ⟨fun a2 => fin _ (u1 v) ?_, fun a2 => ⟨by omega, fun w hw => ?_⟩⟩, fun a1 => ⟨by omega, fun w hw => ?_⟩⟩
        · rw [up2_74, hv, sl1 a1, sr1 a2]; omega
        · obtain ⟨b1, b2⟩ := sr2 a2
          rw [up2_74, up2_o b1, b2] at hw
          have b3 := sl1 a1
          refine ⟨⟨by omega, by omega⟩, fin _ (u2 v w) ?_⟩
          rw [up2_74]; omega
        · obtain ⟨b1, b2⟩ := sl2 a1
          rw [up2_74, up2_o b1, b2] at hw
          refine ⟨⟨by omega, by omega⟩, fun a2 => fin _ (u2 v w) ?_, fun a2 => ⟨by omega, fun x hx => ?_⟩⟩
          · have b3 := sr1 a2
            rw [up2_74]; omega
          · obtain ⟨c1, c2⟩ := sr2 a2
            rw [up2_74, up2_o c1, up2_o c1, c2] at hx
            refine ⟨⟨by omega, by omega⟩, fin _ (u3 v w x) ?_⟩
            rw [up2_74]; omega
      refine bX12_loads_2 hn ⟨⟨by omega, by omega⟩, fun q => by omega, fun _ => ⟨by omega, ?_⟩⟩
      rw [e71, ety, e66, e67, e76, e63]
      refine ⟨by omega, fun q => leaf _ ?_, fun q => leaf _ ?_⟩
      · unfold vg; rw [if_pos q]
      · unfold vg; rw [if_neg q]
  exact wX12_loads hn (key r.length 0 g (by omega) (fun _ _ _ => rfl) (fun y hy => by simp at hy))
end Loads2
