/-! THE REFERENCE: who hangs on whom -/
/-- a forest of N parts: each hangs on one that is nearer to its top, or on none -/
def Fo (N : Int) (on : Nat → Int) : Prop := ∃ rk : Nat → Nat, ∀ k : Nat, (k : Int) < N → rk k < 60 ∧ -1 ≤ on k ∧ on k < N ∧ (0 ≤ on k → rk (on k).toNat < rk k)
def top (on : Nat → Int) : Nat → Nat → Nat
  | 0, k => k
  | f + 1, k => if on k < 0 then k else top on f (on k).toNat
def hgt (on th : Nat → Int) : Nat → Nat → Int
  | 0, _ => 0
  | f + 1, k => if on k < 0 then 0 else th k + hgt on th f (on k).toNat
def abv (on : Nat → Int) (r : Nat) : Nat → Nat → Bool
  | 0, k => k == r
  | f + 1, k => if k = r then true else if on k < 0 then false else abv on r f (on k).toNat
theorem castN {x : Int} (h : 0 ≤ x) : x = ((x.toNat : Nat) : Int) := (Int.toNat_of_nonneg h).symm
theorem spX12_topOf {d n : Nat} {dy : Nat → Shp} {g : Hp} {P : Pst} {k : Nat} (hn : 100 ≤ n) (hF : Fo (g 53 5) (g 60)) (hN : g 53 5 ≤ 60) (hk : (k : Int) < g 53 5) (h : P (some (I_ ((top (g 60) 60 k : Nat) : Int))) n (W0 dy) g) : Runs miX12_topOf d [.ref 53, I_ (k : Int)] n (W0 dy) g P := by
  obtain ⟨rk, hrk⟩ := hF
  refine wX12_topOf hn ?_
  have key : ∀ (f j : Nat), (j : Int) < g 53 5 → rk j ≤ f → P (some (I_ ((top (g 60) f j : Nat) : Int))) n (W0 dy) g → V miX12_topOf d 2 [(0, .ref 53), (1, I_ (k : Int)), (2, I_ (j : Int))] [] n (W0 dy) g 0 0 P := by
    intro f
    induction f with
    | zero =>
      intro j hj hr hP
      refine bX12_topOf_2 hn ⟨⟨by omega, by omega⟩, fun _ => hP, fun a => ?_⟩
      have := (hrk j hj).2.2.2 a
      omega
    | succ f ih =>
      intro j hj hr hP
      refine bX12_topOf_2 hn ⟨⟨by omega, by omega⟩, fun a => ?_, fun a => ?_⟩
      · have e : top (g 60) (f + 1) j = j := if_pos a
        rw [e] at hP; exact hP
      · have a' : 0 ≤ g 60 j := a
        have e : top (g 60) (f + 1) j = top (g 60) f (g 60 j).toNat := if_neg (by omega)
        rw [e] at hP
        obtain ⟨h1, h2, h3, h4⟩ := hrk j hj
        have h5 := h4 a'
        have := ih (g 60 j).toNat (by omega) (by omega) hP
        rw [← castN a'] at this
        exact this
  exact key 60 k hk (by have := (hrk k hk).1; omega) h
