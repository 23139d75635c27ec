/-! CLEAR: the class's search -/
theorem hb_alone {u v : Int} {c : Nat} (hc : c < 60) : hb (and6 u (xor6 v (-1))) c ↔ (hb u c ∧ ¬ hb v c) := by
  unfold hb and6 xor6
  rw [Int64.ofInt_toInt, Int64.ofInt_toInt, Int64.toBitVec_and, BitVec.getLsbD_and, Int64.toBitVec_xor, BitVec.getLsbD_xor]
  have e : (Int64.ofInt (-1)).toBitVec = BitVec.allOnes 64 := by decide
  rw [e, BitVec.getLsbD_allOnes, decide_eq_true (show c < 64 by omega)]
  cases (Int64.ofInt u).toBitVec.getLsbD c <;> cases (Int64.ofInt v).toBitVec.getLsbD c <;> decide
theorem sumL_app (f : Nat → Int) : ∀ l m : List Nat, sumL f (l ++ m) = sumL f l + sumL f m
  | [], m => (Int.zero_add _).symm
  | y :: l, m => by
    show f y + sumL f (l ++ m) = f y + sumL f l + sumL f m
    rw [sumL_app f l m]; omega
/-- c is on the way from k0 down to x -/
abbrev PB (a : Hp) (k0 c x : Nat) : Prop := (c : Int) < a 53 5 ∧ abv (a 60) c 60 x = true ∧ abv (a 60) k0 60 c = true
/-- what the search has been given: the parts H, the pairs WP -/
def CD (a G1 : Hp) (k0 : Nat) (H : List Nat) (WP : List (Nat × Nat)) : Prop :=
  (G1 11 2 = (H.length : Int) ∧ H.length ≤ 60 ∧ H.Nodup) ∧ (∀ i h : Nat, H[i]? = some h → G1 12 i = G1 3 h ∧ (h : Int) < a 53 5 ∧ 0 ≤ a 60 h ∧ abv (a 60) k0 60 h = true ∧ a 62 h < 1000) ∧ (G1 11 8 = (WP.length : Int) ∧ WP.length ≤ 435) ∧
  ∀ (p : Nat) (q : Nat × Nat), WP[p]? = some q → ((q.1 : Int) < a 53 5 ∧ (q.2 : Int) < a 53 5) ∧ (∀ c : Nat, c < 60 → (hb (G1 15 p) c ↔ (PB a k0 c q.1 ∧ ¬ PB a k0 c q.2))) ∧ (∀ c : Nat, c < 60 → (hb (G1 16 p) c ↔ (PB a k0 c q.2 ∧ ¬ PB a k0 c q.1))) ∧ G1 17 p = hh a q.1 - hh a q.2
/-- the frame and what the threads are longer -/
def FD (G1 G : Hp) (H : List Nat) (m : Nat → Int) : Prop := (∀ i q, i ≠ 13 → i ≠ 14 → (i ≠ 11 ∨ q = 2 ∨ q = 8) → G i q = G1 i q) ∧ ∀ i h : Nat, H[i]? = some h → G 13 i = m h
def DY (G1 G : Hp) (H : List Nat) (m : Nat → Int) (ch : List Nat) (t : Nat) : Prop := FD G1 G H m ∧ (G 11 4 = (ch.length : Int) ∧ ∀ j c : Nat, ch[j]? = some c → G 14 j = shl6 1 (c : Int)) ∧ G 11 10 = (t : Int) ∧ (0 ≤ G 11 9 ∧ G 11 9 ≤ 435)
/-- the chosen threads' part in the heights -/
def HM (a : Hp) (k0 : Nat) (m : Nat → Int) (ch : List Nat) : Prop := (∀ c, c ∈ ch → (c : Int) < a 53 5 ∧ abv (a 60) k0 60 c = true) ∧ ∀ z : Nat, (z : Int) < a 53 5 → hgtm a m z = hh a z + sumL (fun c => if abv (a 60) c 60 z = true then 1 else 0) ch
section Clear1
variable {d n : Nat} {dy : Nat → Shp} {a G1 G : Hp} {P : Pst} {k0 : Nat} {H : List Nat} {WP : List (Nat × Nat)} {m : Nat → Int} {ch : List Nat} {t : Nat}
theorem sumL_b1 (a : Hp) (z : Nat) : ∀ l : List Nat, 0 ≤ sumL (fun c => if abv (a 60) c 60 z = true then 1 else 0) l ∧ sumL (fun c => if abv (a 60) c 60 z = true then 1 else 0) l ≤ l.length
  | [] => ⟨Int.le_refl _, Int.le_refl _⟩
  | y :: l => by
    have ih := sumL_b1 a z l
    show 0 ≤ (if abv (a 60) y 60 z = true then 1 else 0) + sumL (fun c => if abv (a 60) c 60 z = true then 1 else 0) l ∧ (if abv (a 60) y 60 z = true then 1 else 0) + sumL (fun c => if abv (a 60) c 60 z = true then 1 else 0) l ≤ ((l.length + 1 : Nat) : Int)
    split <;> omega
theorem cs_doMeet {p : Nat} {q : Nat × Nat} (hn : 100 ≤ n) (hI : Inv a) (hCD : CD a G1 k0 H WP) (hDY : DY G1 G H m ch t) (hHM : HM a k0 m ch) (hch : ch.length ≤ 5) (e : WP[p]? = some q) (h0 : hgtm a m q.1 ≠ hgtm a m q.2 → P (some (I_ 0)) n (W0 dy) G) (h1 : hgtm a m q.1 = hgtm a m q.2 → P (some (I_ 1)) n (W0 dy) G) : Runs miX0_doMeet d [.ref 11, I_ (p : Int)] n (W0 dy) G P := by
  have hN := hI.1
  have pl := (List.getElem?_eq_some_iff.mp e).1
  obtain ⟨-, -, ⟨w1, w2⟩, wp⟩ := hCD
  obtain ⟨⟨q1, q2⟩, b15, b16, b17⟩ := wp p q e
  obtain ⟨⟨fr, lg⟩, ⟨c4, c14⟩, -, -⟩ := hDY
  obtain ⟨hc, hz⟩ := hHM
  have e15 : G 15 p = G1 15 p := fr 15 p (by decide) (by decide) (Or.inl (by decide))
  have e16 : G 16 p = G1 16 p := fr 16 p (by decide) (by decide) (Or.inl (by decide))
  have e17 : G 17 p = G1 17 p := fr 17 p (by decide) (by decide) (Or.inl (by decide))
  have z1 := hz q.1 q1
  have z2 := hz q.2 q2
  have hb1 := hh_b hI q1
  have hb2 := hh_b hI q2
  have key : ∀ (r : List Nat) (j : Nat) (x : Int), j ≤ ch.length → ch.drop j = r → x + (sumL (fun c => if abv (a 60) c 60 q.1 = true then 1 else 0) r - sumL (fun c => if abv (a 60) c 60 q.2 = true then 1 else 0) r) = hgtm a m q.1 - hgtm a m q.2 → V miX0_doMeet d 9 [(0, .ref 11), (1, I_ (p : Int)), (2, I_ x), (3, I_ (j : Int))] [] n (W0 dy) G 0 0 P := by
    intro r
    induction r with
    | nil =>
      intro j x hj hr hx
      have hl := List.drop_eq_nil_iff.mp hr
      have hx : x + ((0 : Int) - 0) = hgtm a m q.1 - hgtm a m q.2 := hx
      have s1 := sumL_b1 a q.1 ch
      have s2 := sumL_b1 a q.2 ch
      refine bX0_doMeet_9 hn ⟨⟨by omega, by omega⟩, fun _ => ⟨⟨by omega, by omega⟩, fun z => h0 (by omega), fun z => h1 (by omega)⟩, fun z => by omega⟩
    | cons c r ih =>
      intro j x hj hr hx
      obtain ⟨ec, er, jl⟩ := dropc hr
      have cl := hc c (List.mem_of_getElem? ec)
      have e14 : G 14 ((j : Nat) : Int).toNat = shl6 1 (c : Int) := c14 j c ec
      have hx : x + (((if abv (a 60) c 60 q.1 = true then 1 else 0) + sumL (fun c => if abv (a 60) c 60 q.1 = true then 1 else 0) r) - ((if abv (a 60) c 60 q.2 = true then 1 else 0) + sumL (fun c => if abv (a 60) c 60 q.2 = true then 1 else 0) r)) = hgtm a m q.1 - hgtm a m q.2 := hx
      have h15 : and6 (G 15 ((p : Nat) : Int).toNat) (shl6 1 (c : Int)) ≠ 0 ↔ (abv (a 60) c 60 q.1 = true ∧ ¬ abv (a 60) c 60 q.2 = true) := by
        show and6 (G 15 p) (shl6 1 (c : Int)) ≠ 0 ↔ _
        rw [hb_and (by omega), e15, b15 c (by omega)]
        exact ⟨fun z => ⟨z.1.2.1, fun w => z.2 ⟨cl.1, w, cl.2⟩⟩, fun z => ⟨⟨cl.1, z.1, cl.2⟩, fun w => z.2 w.2.1⟩⟩
      have h16 : and6 (G 16 ((p : Nat) : Int).toNat) (shl6 1 (c : Int)) ≠ 0 ↔ (abv (a 60) c 60 q.2 = true ∧ ¬ abv (a 60) c 60 q.1 = true) := by
        show and6 (G 16 p) (shl6 1 (c : Int)) ≠ 0 ↔ _
        rw [hb_and (by omega), e16, b16 c (by omega)]
        exact ⟨fun z => ⟨z.1.2.1, fun w => z.2 ⟨cl.1, w, cl.2⟩⟩, fun z => ⟨⟨cl.1, z.1, cl.2⟩, fun w => z.2 w.2.1⟩⟩
      refine bX0_doMeet_9 hn ⟨⟨by omega, by omega⟩, fun z => by omega, fun _ => ⟨⟨by omega, by omega⟩, ⟨by omega, by omega⟩, ?_⟩⟩
      rw [e14, show ((j : Nat) : Int) + 1 = ((j + 1 : Nat) : Int) by omega]
      by_cases u : abv (a 60) c 60 q.1 = true
      · rw [if_pos u] at hx
        by_cases v : abv (a 60) c 60 q.2 = true
        · rw [if_pos v] at hx
          refine ⟨fun _ => ⟨fun _ => ih (j + 1) _ (by omega) er (by omega), fun z => absurd u (h16.mp z).2⟩, fun z => absurd v (h15.mp z).2⟩
        · rw [if_neg v] at hx
          refine ⟨fun z => absurd z (h15.mpr ⟨u, v⟩), fun _ => ih (j + 1) _ (by omega) er (by omega)⟩
      · rw [if_neg u] at hx
        by_cases v : abv (a 60) c 60 q.2 = true
        · rw [if_pos v] at hx
          refine ⟨fun _ => ⟨fun z => absurd z (h16.mpr ⟨v, u⟩), fun _ => ih (j + 1) _ (by omega) er (by omega)⟩, fun z => absurd (h15.mp z).1 u⟩
        · rw [if_neg v] at hx
          refine ⟨fun _ => ⟨fun _ => ih (j + 1) _ (by omega) er (by omega), fun z => absurd (h16.mp z).1 v⟩, fun z => absurd (h15.mp z).1 u⟩
  refine wX0_doMeet hn ⟨⟨by omega, by omega⟩, ?_⟩
  rw [show G 17 ((p : Nat) : Int).toNat = hh a q.1 - hh a q.2 from e17.trans b17]
  exact key ch 0 _ (Nat.zero_le _) rfl (by omega)
theorem cs_look (hn : 100 ≤ n) (hI : Inv a) (hCD : CD a G1 k0 H WP) (hDY : DY G1 G H m ch t) (hHM : HM a k0 m ch) (hch : ch.length ≤ 5) (h2 : 20000 ≤ t → P (some (I_ 2)) n (W0 dy) G) (h0 : t < 20000 → (∃ q, q ∈ WP ∧ hgtm a m q.1 = hgtm a m q.2) → ∀ G', DY G1 G' H m ch (t + 1) → P (some (I_ 0)) n (W0 dy) G') (h1 : t < 20000 → (∀ q, q ∈ WP → hgtm a m q.1 ≠ hgtm a m q.2) → ∀ G', DY G1 G' H m ch (t + 1) → P (some (I_ 1)) n (W0 dy) G') : Runs miX0_look (d + 1) [.ref 11] n (W0 dy) G P := by
  have e10 := hDY.2.2.1
  have e9 := hDY.2.2.2
  refine wX0_look hn ⟨fun c => ⟨⟨by omega, by omega⟩, ?_⟩, fun c => h2 (by omega)⟩
  have ht : t < 20000 := by omega
  have hD2 : DY G1 (up2 G 11 10 (G 11 10 + 1)) H m ch (t + 1) := by
    obtain ⟨⟨fr, lg⟩, ⟨c4, c14⟩, c10, c9⟩ := hDY
    refine ⟨⟨fun i q i1 i2 i3 => ?_, fun i h e => ?_⟩, ⟨?_, fun j c e => ?_⟩, ?_, ?_⟩
    · rw [up2_ap, if_neg (by omega)]; exact fr i q i1 i2 i3
    · rw [up2_i (by decide)]; exact lg i h e
    · rw [up2_k, if_neg (by decide)]; exact c4
    · rw [up2_i (by decide)]; exact c14 j c e
    · rw [up2_s, c10]; rfl
    · rw [up2_k, if_neg (by decide)]; exact c9
  have e9' : up2 G 11 10 (G 11 10 + 1) 11 9 = G 11 9 := by rw [up2_k, if_neg (by decide)]
  rw [← e9']
  rw [← e9'] at e9
  clear hDY c e10 e9'
  generalize (up2 G 11 10 (G 11 10 + 1)) = G at hD2 e9 ⊢
  obtain ⟨w1, w2⟩ := hCD.2.2.1
  have e8 : G 11 8 = (WP.length : Int) := (hD2.1.1 11 8 (by decide) (by decide) (Or.inr (Or.inr rfl))).trans w1
  have upd : ∀ p : Nat, p < WP.length → DY G1 (up2 G 11 9 (p : Int)) H m ch (t + 1) := fun p hp => by
    obtain ⟨⟨fr, lg⟩, ⟨c4, c14⟩, c10, c9⟩ := hD2
    refine ⟨⟨fun i q i1 i2 i3 => ?_, fun i h e => ?_⟩, ⟨?_, fun j c e => ?_⟩, ?_, ?_⟩
    · rw [up2_ap, if_neg (by omega)]; exact fr i q i1 i2 i3
    · rw [up2_i (by decide)]; exact lg i h e
    · rw [up2_k, if_neg (by decide)]; exact c4
    · rw [up2_i (by decide)]; exact c14 j c e
    · rw [up2_k, if_neg (by decide)]; exact c10
    · rw [up2_s]; omega
  obtain ⟨la, ela⟩ := exN e9.1
  have lab : la ≤ 435 := by omega
  -- the second loop
  have two : (∀ (p : Nat) (q : Nat × Nat), la ≤ p → WP[p]? = some q → hgtm a m q.1 ≠ hgtm a m q.2) → ∀ u p : Nat, u + p = la → (∀ (p' : Nat) (q : Nat × Nat), p' < p → WP[p']? = some q → hgtm a m q.1 ≠ hgtm a m q.2) → V miX0_look (d + 1) 58 [(0, .ref 11), (1, I_ (p : Int))] [] n (W0 dy) G 0 0 P := by
    intro hi u
    have fin : ∀ p : Nat, (p = la ∨ WP.length ≤ p) → (∀ (p' : Nat) (q : Nat × Nat), p' < p → WP[p']? = some q → hgtm a m q.1 ≠ hgtm a m q.2) → P (some (I_ 1)) n (W0 dy) G := fun p hp lo => by
      refine h1 ht (fun q hq => ?_) G hD2
      obtain ⟨p', e'⟩ := List.mem_iff_getElem?.mp hq
      have := (List.getElem?_eq_some_iff.mp e').1
      by_cases c : p' < p
      · exact lo p' q c e'
      · exact hi p' q (by omega) e'
    induction u with
    | zero =>
      intro p hp lo
      exact bX0_look_58 hn ⟨⟨by omega, by omega⟩, fun _ => fin p (Or.inl (by omega)) lo, fun c => by omega⟩
    | succ u ih =>
      intro p hp lo
      refine bX0_look_58 hn ⟨⟨by omega, by omega⟩, fun c => by omega, fun _ => ⟨fun c => fin p (Or.inr (by omega)) lo, fun c => ?_⟩⟩
      have pl : p < WP.length := by omega
      have e : WP[p]? = some (WP[p]'pl) := List.getElem?_eq_some_iff.mpr ⟨pl, rfl⟩
      generalize WP[p]'pl = q at e
      refine cs_doMeet hn hI hCD hD2 hHM hch e (fun z => ?_) (fun z => ?_)
      · refine bX0_look_79 hn ⟨by decide, fun _ => ?_, fun w => absurd rfl w⟩
        rw [show ((p : Nat) : Int) + 1 = ((p + 1 : Nat) : Int) by omega]
        refine ih (p + 1) (by omega) fun p' q' hp' e' => ?_
        by_cases c : p' = p
        · rw [c, e] at e'
          have e' : q = q' := by simpa using e'
          rw [← e']; exact z
        · exact lo p' q' (by omega) e'
      · exact bX0_look_79 hn ⟨by decide, fun w => absurd w (by decide), fun _ => ⟨⟨by omega, by omega⟩, h0 ht ⟨q, List.mem_of_getElem? e, z⟩ _ (upd p pl)⟩⟩
  -- the first
  have one : ∀ u p : Nat, la ≤ p → u + p = max la WP.length → (∀ (p' : Nat) (q : Nat × Nat), la ≤ p' → p' < p → WP[p']? = some q → hgtm a m q.1 ≠ hgtm a m q.2) → V miX0_look (d + 1) 27 [(0, .ref 11), (1, I_ (p : Int))] [] n (W0 dy) G 0 0 P := by
    intro u
    induction u with
    | zero =>
      intro p hp hu lo
      refine bX0_look_27 hn ⟨⟨by omega, by omega⟩, fun _ => two (fun p' q hp' e' => ?_) la 0 (by omega) (fun p' q hp' => by omega), fun c => by omega⟩
      have := (List.getElem?_eq_some_iff.mp e').1
      exact lo p' q hp' (by omega) e'
    | succ u ih =>
      intro p hp hu lo
      have pl : p < WP.length := by omega
      refine bX0_look_27 hn ⟨⟨by omega, by omega⟩, fun c => by omega, fun _ => ?_⟩
      have e : WP[p]? = some (WP[p]'pl) := List.getElem?_eq_some_iff.mpr ⟨pl, rfl⟩
      generalize WP[p]'pl = q at e
      refine cs_doMeet hn hI hCD hD2 hHM hch e (fun z => ?_) (fun z => ?_)
      · refine bX0_look_40 hn ⟨by decide, fun _ => ?_, fun w => absurd rfl w⟩
        rw [show ((p : Nat) : Int) + 1 = ((p + 1 : Nat) : Int) by omega]
        refine ih (p + 1) (by omega) (by omega) fun p' q' hl hp' e' => ?_
        by_cases c : p' = p
        · rw [c, e] at e'
          have e' : q = q' := by simpa using e'
          rw [← e']; exact z
        · exact lo p' q' hl (by omega) e'
      · exact bX0_look_40 hn ⟨by decide, fun w => absurd w (by decide), fun _ => ⟨⟨by omega, by omega⟩, h0 ht ⟨q, List.mem_of_getElem? e, z⟩ _ (upd p pl)⟩⟩
  rw [ela]
  exact one (max la WP.length - la) la (Nat.le_refl _) (by omega) (fun p' q h1 h2 => by omega)
end Clear1
