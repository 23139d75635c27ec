/-! GATHERING: one part more -/
section Add
variable {d n : Nat} {dy : Nat → Shp} {g a : Hp} {P : Pst}
/-- what add() leaves -/
def addS (g : Hp) (c x : Nat) (H p o : Int) (w : Bool) : Hp := up2 (up2 (up2 (up2 (up2 (up2 (up2 g c 7 H) c 6 (or6 p (shl6 1 (x : Int)))) c 8 o) c 9 (if w then o else 0)) 5 ((g 4 1).toNat) ((c : Nat) : Int)) 4 1 (g 4 1 + 1)) 4 2 (or6 (g 4 2) (shl6 1 (x : Int)))
theorem cs_add0 {x2 x3 : Int} (hn : 100 ≤ n) (h : P none n (W0 dy) g) : Runs miX1_add (d + 1) [.ref 4, .ref 0, I_ x2, L_ x3] n (W0 dy) g P := wX1_add hn ⟨fun _ => h, fun q => absurd q (Nat.lt_irrefl 0)⟩
theorem cs_add {x : Nat} {x2 x3 : Int} (hC : Ca n dy g a) (hI : Inv a) (hx : (x : Int) < a 53 5) (hm : 0 ≤ g 4 1 ∧ g 4 1 < 60) (hh : 0 ≤ x2 ∧ x2 ≤ 1000000) (h : P none n (W0 dy) (addS g (g 3 x).toNat x (if g 4 1 = 0 then 0 else x2 + a 62 x) x3 (a 63 x) (decide (a 57 x = 1)))) : Runs miX1_add (d + 1) [.ref 4, .ref (g 3 x).toNat, I_ x2, L_ x3] n (W0 dy) g P := by
  have hn := hC.1
  have bx := hC.cell hx
  have px := (hC.2.2.2.1 _ hx).pt (hI.2.2.1 _ hx).2
  obtain ⟨⟨c3, c4, c5⟩, -⟩ := hC.known hx
  have n0 : g (g 3 x).toNat 0 = x := (hC.2.2.2.1 _ hx).2.1.1
  have n1 : g (g 3 x).toNat 1 = a 57 x := (hC.2.2.2.1 _ hx).2.1.2.1
  have n2 : g (g 3 x).toNat 2 = a 63 x := (hC.2.2.2.1 _ hx).2.1.2.2
  have th : 0 ≤ a 62 x ∧ a 62 x ≤ 1000 := by
    have hp := (hI.2.2.1 x hx).1
    by_cases z : a 60 x < 0
    · have := (hp.2.1 z).2; omega
    · have := (hp.2.2.1 (by omega)).1; omega
  generalize hc : (g 3 x).toNat = c at *
  have hc0 : 0 < c := by omega
  have hc100 : 100 ≤ c := by omega
  clear bx c3 c4
  have go : ∀ H : Int, H = (if g 4 1 = 0 then 0 else x2 + a 62 x) → Runs miX2_bit d [.ref c] n (W0 dy) (up2 g c 7 H) (fun v n' S' g' => V miX1_add (d + 1) 44 [(0, .ref 4), (1, .ref c), (2, I_ x2), (3, L_ x3)] (v.toList ++ [L_ x3, .ref c]) n' S' g' 0 0 P) := fun H eH => by
    rw [← eH] at h
    have m0 : (up2 g c 7 H) c 0 = (x : Int) := by rw [up2_k, if_neg (by omega)]; exact n0
    have m1 : (up2 g c 7 H) c 1 = a 57 x := by rw [up2_k, if_neg (by omega)]; exact n1
    have m2 : (up2 g c 7 H) c 2 = a 63 x := by rw [up2_k, if_neg (by omega)]; exact n2
    have m41 : (up2 g c 7 H) 4 1 = g 4 1 := up2_i (by omega)
    have m42 : (up2 g c 7 H) 4 2 = g 4 2 := up2_i (by omega)
    refine wX2_bit hn ⟨px, ?_⟩
    rw [m0]
    have last : ∀ (o9 : Int), o9 = (if a 57 x = 1 then a 63 x else 0) → Runs miX2_bit d [.ref c] n (W0 dy) (up2 (up2 (up2 (up2 (up2 (up2 g c 7 H) c 6 (or6 x3 (shl6 1 (x : Int)))) c 8 (a 63 x)) c 9 o9) 5 ((g 4 1).toNat) (((c : Nat) : Int))) 4 1 ((g 4 1) + 1)) (fun v n' S' g' => V miX1_add (d + 1) 107 [(0, .ref 4), (1, .ref c), (2, I_ x2), (3, L_ x3)] (v.toList ++ [L_ (g 4 2), .ref 4]) n' S' g' 0 0 P) := fun o9 e9 => by
      refine wX2_bit hn ⟨px, ?_⟩
      have z0 : up2 (up2 (up2 (up2 (up2 (up2 g c 7 H) c 6 (or6 x3 (shl6 1 (x : Int)))) c 8 (a 63 x)) c 9 o9) 5 ((g 4 1).toNat) (((c : Nat) : Int))) 4 1 ((g 4 1) + 1) c 0 = (x : Int) := by
        rw [up2_i (by omega), up2_i (by omega), up2_k, if_neg (by omega), up2_k, if_neg (by omega), up2_k, if_neg (by omega)]; exact m0
      rw [z0]
      refine bX1_add_107 hn ?_
      unfold addS at h
      rw [e9]
      by_cases z : a 57 x = 1
      · rw [decide_eq_true z] at h; rw [if_pos z]; exact h
      · rw [decide_eq_false z] at h; rw [if_neg z]; exact h
    refine bX1_add_44 hn ⟨px, px, ?_⟩
    rw [m1, m2, m41, m42]
    exact ⟨fun q => ⟨hm, ⟨by omega, by omega⟩, last 0 (by rw [if_neg q])⟩, fun q => ⟨hm, ⟨by omega, by omega⟩, last (a 63 x) (by rw [if_pos q])⟩⟩
  refine wX1_add hn ⟨fun q => by omega, fun _ => ⟨fun _ => ⟨fun q => ⟨px, ⟨by omega, by omega⟩, ?_⟩, fun q => ⟨px, go 0 (by rw [if_pos q])⟩⟩, fun q => by omega⟩⟩
  rw [c5]
  exact go _ (by rw [if_neg q])
end Add
