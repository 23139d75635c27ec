/-! THE SETS THAT THE CLASS LISTS: the loops -/
def lwL (g G : Hp) : Prop := ∀ i q, (i < 21 ∨ i = 23 ∨ 35 < i) → G i q = g i q
/-- list l lies at place p -/
def LsA (G : Hp) (p : Nat) (l : List Nat) : Prop := G 33 p = (l.length : Int) ∧ ∀ i T : Nat, l[i]? = some T → G (24 + p) i = (T : Int)
section Lists
variable {d n : Nat} {dy : Nat → Shp} {g : Hp} {P : Pst} {N m : Nat} {v w : Nat → Int}
theorem lwL.refl (g : Hp) : lwL g g := fun _ _ _ => rfl
theorem lwL.tr {g G H : Hp} (h : lwL g G) (h' : lwL G H) : lwL g H := fun i q hi => (h' i q hi).trans (h i q hi)
theorem lwL.up {G : Hp} {i k : Nat} {x : Int} (h : lwL g G) (hi : 21 ≤ i ∧ i ≠ 23 ∧ i ≤ 35) : lwL g (up2 G i k x) := fun j q hj => by
  rw [up2_i (by omega)]; exact h j q hj
theorem ar24 (hn : 100 ≤ n) {p : Nat} (hp : p < 9) : Ar n (W0 dy) (24 + p) 13 252 := by
  match p, hp with
  | 0, _ => exact ⟨⟨by decide, by omega⟩, rfl, rfl⟩
  | 1, _ => exact ⟨⟨by decide, by omega⟩, rfl, rfl⟩
  | 2, _ => exact ⟨⟨by decide, by omega⟩, rfl, rfl⟩
  | 3, _ => exact ⟨⟨by decide, by omega⟩, rfl, rfl⟩
  | 4, _ => exact ⟨⟨by decide, by omega⟩, rfl, rfl⟩
  | 5, _ => exact ⟨⟨by decide, by omega⟩, rfl, rfl⟩
  | 6, _ => exact ⟨⟨by decide, by omega⟩, rfl, rfl⟩
  | 7, _ => exact ⟨⟨by decide, by omega⟩, rfl, rfl⟩
  | 8, _ => exact ⟨⟨by decide, by omega⟩, rfl, rfl⟩
/-- what of Parting stays while sets are listed -/
def PK (N m : Nat) (v w : Nat → Int) (G : Hp) : Prop := G 18 1 = (N : Int) ∧ G 18 3 = (m : Int) ∧ (∀ i, i < N → G 19 i = v i) ∧ (∀ p, p ≤ m → G 20 p = sumN w p) ∧ ∀ p, p < 9 → G 23 p = ((24 + p : Nat) : Int)
theorem PK.mv {G : Hp} (h : PK N m v w g) (hl : lwL g G) : PK N m v w G := by
  obtain ⟨h1, h2, h3, h4, h5⟩ := h
  exact ⟨(hl 18 1 (by decide)).trans h1, (hl 18 3 (by decide)).trans h2, fun i hi => (hl 19 i (by decide)).trans (h3 i hi), fun p hp => (hl 20 p (by decide)).trans (h4 p hp), fun p hp => (hl 23 p (by decide)).trans (h5 p hp)⟩
theorem cs_list {T : Nat} (hn : 100 ≤ n) (hN : N ≤ 10) (hm : m ≤ 8) (hT : T < 2 ^ N) (hv : ∀ i, i < N → 1 ≤ v i) (hP : PK N m v w g) (hi : ino N v T) (h21 : g 21 T = sm N v T) (hL : ∀ p, p ≤ m → LsA g p (Ls N v w p T))
    (h : ∀ G : Hp, (∀ i q, (i < 24 ∨ 34 ≤ i) → ¬ (i = 34 ∧ q = T) → G i q = g i q) → G 34 T = 0 → (∀ p, p ≤ m → LsA G p (Ls N v w p (T + 1))) → P none n (W0 dy) G) : Runs miX3_list d [.ref 18, I_ (T : Int)] n (W0 dy) g P := by
  have hp2 := p2_le hN
  have key : ∀ (r p : Nat) (G : Hp), p + r = m + 1 → (∀ i q, (i < 24 ∨ 34 ≤ i) → ¬ (i = 34 ∧ q = T) → G i q = g i q) → G 34 T = 0 → (∀ p', p' < p → LsA G p' (Ls N v w p' (T + 1))) → (∀ p', p ≤ p' → p' ≤ m → LsA G p' (Ls N v w p' T)) → V miX3_list d 9 [(0, .ref 18), (1, I_ (T : Int)), (2, I_ (p : Int))] [] n (W0 dy) G 0 0 P := by
    intro r
    induction r with
    | zero =>
      intro p G hp hf h34 hd hu
      have e3 : G 18 3 = (m : Int) := (hf 18 3 (by decide) (by omega)).trans hP.2.1
      exact bX3_list_9 hn ⟨⟨by omega, by omega⟩, fun _ => h G hf h34 fun p' hp' => hd p' (by omega), fun q => by omega⟩
    | succ r ih =>
      intro p G hp hf h34 hd hu
      have e3 : G 18 3 = (m : Int) := (hf 18 3 (by decide) (by omega)).trans hP.2.1
      have e21 : G 21 T = sm N v T := (hf 21 T (by decide) (by omega)).trans h21
      have e20 : G 20 p = sumN w p := (hf 20 p (by decide) (by omega)).trans (hP.2.2.2.1 p (by omega))
      have e23 : G 23 p = ((24 + p : Nat) : Int) := (hf 23 p (by decide) (by omega)).trans (hP.2.2.2.2 p (by omega))
      obtain ⟨l1, l2⟩ := hu p (Nat.le_refl p) (by omega)
      have e1 : (p : Int) + 1 = ((p + 1 : Nat) : Int) := by omega
      have skip : ¬ (ino N v T ∧ sm N v T = sumN w p) → V miX3_list d 9 [(0, .ref 18), (1, I_ (T : Int)), (2, I_ ((p : Int) + 1))] [] n (W0 dy) G 0 0 P := fun z => by
        rw [e1]
        refine ih (p + 1) G (by omega) hf h34 (fun p' hp' => ?_) fun p' h1 h2 => hu p' (by omega) h2
        by_cases c : p' = p
        · rw [c, Ls_f z]; exact ⟨l1, l2⟩
        · exact hd p' (by omega)
      refine bX3_list_9 hn ⟨⟨by omega, by omega⟩, fun q => by omega, fun _ => ⟨⟨by omega, by omega⟩, ⟨by omega, by omega⟩, fun q => skip fun z => q ?_, fun q => ?_⟩⟩
      · show G 21 T = G 20 p
        rw [e21, e20]; exact z.2
      · have q' : sm N v T = sumN w p := by rw [← e21, ← e20]; exact q
        have hlen := Ls_len (N := N) (v := v) (w := w) (p := p) (c := T + 1) hN (by omega) hv
        rw [Ls_t ⟨hi, q'⟩, List.length_append] at hlen
        have hlen' : (Ls N v w p T).length + 1 ≤ 252 := hlen
        simp only [Int.toNat_natCast, l1, e23]
        refine ⟨fun z => by omega, fun _ => ⟨ar24 hn (by omega), ⟨by omega, by omega⟩, fun y ey => ?_⟩⟩
        rw [up2_i (by omega)] at ey
        rw [l1] at ey
        refine ⟨⟨by omega, by omega⟩, ?_⟩
        rw [e1, ey]
        refine ih (p + 1) _ (by omega) (fun i k h1 h2 => ?_) ?_ (fun p' hp' => ?_) fun p' h1 h2 => ?_
        · rw [up2_i (by omega), up2_i (by omega)]; exact hf i k h1 h2
        · rw [up2_i (by decide), up2_i (by omega)]; exact h34
        · by_cases c : p' = p
          · subst c
            rw [Ls_t ⟨hi, q'⟩]
            refine ⟨?_, fun i U hU => ?_⟩
            · rw [up2_k, if_pos rfl, List.length_append]; rfl
            · rw [up2_i (by omega), up2_k]
              by_cases z : i = (Ls N v w p' T).length
              · rw [if_pos z]
                rw [z, List.getElem?_append_right (Nat.le_refl _), Nat.sub_self] at hU
                have : T = U := by simpa using hU
                rw [this]
              · rw [if_neg z]
                have hlt : i < (Ls N v w p' T).length := by
                  have := (List.getElem?_eq_some_iff.mp hU).1
                  rw [List.length_append] at this
                  have : i < (Ls N v w p' T).length + 1 := this
                  omega
                rw [List.getElem?_append_left hlt] at hU
                exact l2 i U hU
          · obtain ⟨a1, a2⟩ := hd p' (by omega)
            exact ⟨by rw [up2_k, if_neg c, up2_i (by omega)]; exact a1, fun i U hU => by rw [up2_i (by omega), up2_i (by omega)]; exact a2 i U hU⟩
        · obtain ⟨a1, a2⟩ := hu p' (by omega) h2
          exact ⟨by rw [up2_k, if_neg (by omega), up2_i (by omega)]; exact a1, fun i U hU => by rw [up2_i (by omega), up2_i (by omega)]; exact a2 i U hU⟩
  refine wX3_list hn ⟨⟨by omega, by omega⟩, ?_⟩
  refine key (m + 1) 0 _ (by omega) (fun i q h1 h2 => ?_) ?_ (fun p' hp' => by omega) fun p' _ h2 => ?_
  · exact if_neg (fun z => h2 z)
  · exact if_pos ⟨rfl, rfl⟩
  · obtain ⟨a1, a2⟩ := hL p' h2
    exact ⟨by rw [up2_i (by decide)]; exact a1, fun i U hU => by rw [up2_i (by omega)]; exact a2 i U hU⟩
theorem cs_likeAhead {i : Nat} (hn : 100 ≤ n) (hN : N ≤ 10) (hi : i < N) (hP : PK N m v w g) (h : ∀ A : Nat, A < 1024 → (∀ r : Nat, ino N v r → (r &&& A = A ↔ ∀ j, j < i → v j = v i → r.testBit j = true)) → P (some (I_ (A : Int))) n (W0 dy) g) : Runs miX3_likeAhead d [.ref 18, I_ (i : Int)] n (W0 dy) g P := by
  have hp2 := p2_le hN
  have key : ∀ (j : Nat), j ≤ i → (∀ j', j ≤ j' → j' < i → v j' ≠ v i) → V miX3_likeAhead d 4 [(0, .ref 18), (1, I_ (i : Int)), (2, I_ ((j : Int) - 1))] [] n (W0 dy) g 0 0 P := by
    intro j
    induction j with
    | zero =>
      intro _ hd
      refine bX3_likeAhead_4 hn ⟨by decide, fun _ => ?_, fun q => absurd q (by decide)⟩
      refine h 0 (by decide) fun r _ => ⟨fun _ j hj e => absurd e (hd j (Nat.zero_le _) hj), fun _ => Nat.and_zero r⟩
    | succ j ih =>
      intro hj hd
      rw [show ((j + 1 : Nat) : Int) - 1 = (j : Int) by omega]
      refine bX3_likeAhead_4 hn ⟨⟨by omega, by omega⟩, fun q => by omega, fun _ => ⟨⟨by omega, by omega⟩, ⟨by omega, by omega⟩, ?_⟩⟩
      show (g 19 j ≠ g 19 i → V miX3_likeAhead d 4 [(0, .ref 18), (1, I_ (i : Int)), (2, I_ ((j : Int) + (-1)))] [] n (W0 dy) g 0 0 P) ∧ (g 19 j = g 19 i → P (some (I_ (shl3 1 (j : Int)))) n (W0 dy) g)
      rw [hP.2.2.1 j (by omega), hP.2.2.1 i hi, shl_N (j := j) (by omega)]
      refine ⟨fun q => ih (by omega) fun j' h1 h2 => ?_, fun q => h (2 ^ j) ?_ fun r hr => ?_⟩
      · by_cases c : j' = j
        · rw [c]; exact q
        · exact hd j' (by omega) h2
      · have := Nat.pow_lt_pow_right (a := 2) (by omega) (by omega : j < N)
        omega
      · have e : (r &&& 2 ^ j = 2 ^ j) ↔ r.testBit j = true := by
          rw [Nat.and_comm, sb_and]
          constructor
          · intro z; exact z j (by rw [Nat.testBit_two_pow]; exact decide_eq_true rfl)
          · intro z x hx
            rw [Nat.testBit_two_pow] at hx
            have := of_decide_eq_true hx
            subst this
            exact z
        rw [e]
        constructor
        · intro z x hx ex
          rcases Nat.lt_trichotomy x j with c | c | c
          · exact hr x j c (by omega) (by rw [ex, q]) z
          · rw [c]; exact z
          · exact absurd ex (hd x (by omega) hx)
        · intro z; exact z j (by omega) q
  exact wX3_likeAhead hn (key i (Nat.le_refl i) fun j' h1 h2 => by omega)
/-- all sets below c are listed -/
def LSt (N m : Nat) (v w : Nat → Int) (g : Hp) (c : Nat) (G : Hp) : Prop :=
  lwL g G ∧ (∀ T, T < c → (ino N v T → G 21 T = sm N v T ∧ G 34 T = 0) ∧ (¬ ino N v T → G 21 T = -1) ∧ G 22 T = dg N T) ∧ ∀ p, p ≤ m → LsA G p (Ls N v w p c)
end Lists
