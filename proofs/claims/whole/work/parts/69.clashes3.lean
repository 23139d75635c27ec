/-! CLASHES: the reference -/
/-- the pairs (x, y), y below m, that come near each other -/
def pin (a : Hp) (k x : Nat) : Nat → List (Nat × Nat)
  | 0 => []
  | m + 1 => if (x < m ∧ Wt a k m) ∧ nr a x m = 1 then pin a k x m ++ [(x, m)] else pin a k x m
def pall (a : Hp) (k : Nat) : Nat → List (Nat × Nat)
  | 0 => []
  | m + 1 => if Wt a k m then pall a k m ++ pin a k m (a 53 5).toNat else pall a k m
def cntP (H : Nat → Int) : List (Nat × Nat) → Int
  | [] => 0
  | p :: L => (if H p.1 = H p.2 then 1 else 0) + cntP H L
theorem cntP_app (H : Nat → Int) : ∀ L M : List (Nat × Nat), cntP H (L ++ M) = cntP H L + cntP H M
  | [], M => (Int.zero_add _).symm
  | p :: L, M => by
    show (if H p.1 = H p.2 then 1 else 0) + cntP H (L ++ M) = (if H p.1 = H p.2 then 1 else 0) + cntP H L + cntP H M
    rw [cntP_app H L M]; omega
def tri : Nat → Nat
  | 0 => 0
  | m + 1 => tri m + (59 - m)
theorem tri_b : ∀ m : Nat, m ≤ 60 → tri m ≤ 1770 := by
  have h : ∀ m : Fin 61, tri m.val ≤ 1770 := by decide
  exact fun m hm => h ⟨m, by omega⟩
section Clashes3
variable {d n : Nat} {dy : Nat → Shp} {g a G : Hp} {P : Pst}
theorem pin_len (k x : Nat) : ∀ m : Nat, (pin a k x m).length ≤ m - (x + 1)
  | 0 => Nat.zero_le _
  | m + 1 => by
    have ih := pin_len k x m
    unfold pin
    split
    · rename_i c
      rw [List.length_append]
      show (pin a k x m).length + 1 ≤ _
      omega
    · omega
theorem pall_len (hN : a 53 5 ≤ 60) (k : Nat) : ∀ m : Nat, (pall a k m).length ≤ tri m
  | 0 => Nat.le_refl _
  | m + 1 => by
    have ih := pall_len hN k m
    unfold pall tri
    split
    · rw [List.length_append]
      have := pin_len (a := a) k m (a 53 5).toNat
      omega
    · omega
theorem pin_in (k x : Nat) : ∀ (m : Nat) (p : Nat × Nat), p ∈ pin a k x m → p.1 = x ∧ p.2 < m ∧ x < p.2 ∧ Wt a k p.2 ∧ nr a x p.2 = 1
  | 0, p, h => by simp [pin] at h
  | m + 1, p, h => by
    unfold pin at h
    split at h
    · rename_i c
      rcases List.mem_append.mp h with z | z
      · have := pin_in k x m p z
        exact ⟨this.1, by omega, this.2.2⟩
      · have e : p = (x, m) := by simpa using z
        rw [e]; exact ⟨rfl, Nat.lt_succ_self m, c.1.1, c.1.2, c.2⟩
    · have := pin_in k x m p h
      exact ⟨this.1, by omega, this.2.2⟩
theorem pall_in (k : Nat) : ∀ (m : Nat) (p : Nat × Nat), p ∈ pall a k m → p.1 < m ∧ p.2 < (a 53 5).toNat ∧ p.1 < p.2 ∧ Wt a k p.1 ∧ Wt a k p.2 ∧ nr a p.1 p.2 = 1
  | 0, p, h => by simp [pall] at h
  | m + 1, p, h => by
    unfold pall at h
    split at h
    · rename_i c
      rcases List.mem_append.mp h with z | z
      · have := pall_in k m p z
        exact ⟨by omega, this.2⟩
      · obtain ⟨e, h1, h2, h3, h4⟩ := pin_in k m _ p z
        rw [e]; exact ⟨Nat.lt_succ_self m, h1, h2, c, h3, h4⟩
    · have := pall_in k m p h
      exact ⟨by omega, this.2⟩
theorem pin_mem (k x y : Nat) (h1 : x < y) (h2 : Wt a k y) (h3 : nr a x y = 1) : ∀ m : Nat, y < m → (x, y) ∈ pin a k x m
  | 0, h => by omega
  | m + 1, h => by
    unfold pin
    by_cases e : y = m
    · subst e
      rw [if_pos ⟨⟨h1, h2⟩, h3⟩]; simp
    · have := pin_mem k x y h1 h2 h3 m (by omega)
      split
      · exact List.mem_append.mpr (Or.inl this)
      · exact this
theorem pall_mem (k x y : Nat) (h1 : x < y) (hy : y < (a 53 5).toNat) (hx : Wt a k x) (h2 : Wt a k y) (h3 : nr a x y = 1) : ∀ m : Nat, x < m → (x, y) ∈ pall a k m
  | 0, h => by omega
  | m + 1, h => by
    unfold pall
    by_cases e : x = m
    · subst e
      rw [if_pos hx]
      exact List.mem_append.mpr (Or.inr (pin_mem k x y h1 h2 h3 _ hy))
    · have := pall_mem k x y h1 hy hx h2 h3 m (by omega)
      split
      · exact List.mem_append.mpr (Or.inl this)
      · exact this
theorem pin_cnt (k x : Nat) (hx : Wt a k x) : ∀ m : Nat, cntP (hh a) (pin a k x m) = sumN (fun y => if x < y then mt a k x y else 0) m
  | 0 => rfl
  | m + 1 => by
    have ih := pin_cnt k x hx m
    show cntP (hh a) (pin a k x (m + 1)) = sumN (fun y => if x < y then mt a k x y else 0) m + (if x < m then mt a k x m else 0)
    rw [← ih]
    have un : pin a k x (m + 1) = if (x < m ∧ Wt a k m) ∧ nr a x m = 1 then pin a k x m ++ [(x, m)] else pin a k x m := rfl
    rw [un]
    unfold mt
    by_cases c : (x < m ∧ Wt a k m) ∧ nr a x m = 1
    · rw [if_pos c, cntP_app, if_pos c.1.1]
      show cntP (hh a) (pin a k x m) + ((if hh a x = hh a m then 1 else 0) + 0) = _
      by_cases z : hh a x = hh a m
      · rw [if_pos z, if_pos ⟨⟨hx, c.1.2⟩, c.2, z⟩]; omega
      · rw [if_neg z, if_neg (fun w => z w.2.2)]; omega
    · rw [if_neg c]
      by_cases z : x < m
      · rw [if_pos z, if_neg (fun w => c ⟨⟨z, w.1.2⟩, w.2.1⟩)]; omega
      · rw [if_neg z]; omega
theorem pall_cnt (k : Nat) : ∀ m : Nat, cntP (hh a) (pall a k m) = sumN (fun x => sumN (fun y => if x < y then mt a k x y else 0) (a 53 5).toNat) m
  | 0 => rfl
  | m + 1 => by
    have ih := pall_cnt k m
    show cntP (hh a) (pall a k (m + 1)) = sumN (fun x => sumN (fun y => if x < y then mt a k x y else 0) (a 53 5).toNat) m + sumN (fun y => if m < y then mt a k m y else 0) (a 53 5).toNat
    rw [← ih]
    have un : pall a k (m + 1) = if Wt a k m then pall a k m ++ pin a k m (a 53 5).toNat else pall a k m := rfl
    rw [un]
    by_cases c : Wt a k m
    · rw [if_pos c, cntP_app, pin_cnt k m c]
    · rw [if_neg c]
      have z : sumN (fun y => if m < y then mt a k m y else 0) (a 53 5).toNat = 0 := by
        refine Eq.trans (sumN_cg _ fun y _ => ?_) (sumN_zero _)
        unfold mt
        rw [if_neg (c := (Wt a k m ∧ Wt a k y) ∧ nr a m y = 1 ∧ hh a m = hh a y) (fun w => c w.1.1)]
        split <;> rfl
      omega
/-- the pairs lie in rows 81, 82 -/
def PA (G : Hp) (L : List (Nat × Nat)) : Prop := G 53 35 = (L.length : Int) ∧ ∀ (m : Nat) (p : Nat × Nat), L[m]? = some p → G 81 m = (p.1 : Int) ∧ G 82 m = (p.2 : Int)
/-- all but what near() and findPairs() write -/
def Kp (g G : Hp) : Prop := ∀ i q, i ≠ 81 → i ≠ 82 → (i ≠ 53 ∨ (q ≠ 32 ∧ q ≠ 33 ∧ q ≠ 34 ∧ q ≠ 35)) → G i q = g i q
theorem Kp.rz (h : Kp g G) : rz G = rz g := rz_eq fun i q hl => h i q (by unfold rl at hl; simp at hl; omega) (by unfold rl at hl; simp at hl; omega) (by unfold rl at hl; simp at hl; omega)
theorem sp_wholes {x1 : Int} (hn : 100 ≤ n) (hI : Inv g) (h1 : i3 x1) (hb : ∀ G, (∀ i q, i ≠ 75 → G i q = g i q) → 0 < whT g x1 → P (some (I_ (whT g x1))) n (W0 dy) G) (hg : ∀ (k : Nat) (G : Hp), x1 = (k : Int) → (k : Int) < g 53 5 → g 60 k < 0 → cWh g k → whT g x1 = 0 → (∀ i q, i ≠ 75 → G i q = g i q) → (∀ y : Nat, (y : Int) < g 53 5 → G 75 y = abvI (g 60) k y) → P (some (I_ 0)) n (W0 dy) G) : Runs miX12_wholes (d + 2) [.ref 53, I_ x1] n (W0 dy) g P := by
  have hN := hI.1
  refine wX12_wholes hn (spX12_topped hn hI.1.2 h1 (bX12_wholes_5 hn ⟨topI_i3 _ _, fun q => ?_, fun q => ?_⟩))
  · have c := topI_le q
    obtain ⟨c1, c2, c3⟩ := topI_0 c
    obtain ⟨k, rfl⟩ := exN c1
    have c3 : g 60 k < 0 := c3
    have hF : RF g := ⟨hI.1, hI.dp⟩
    refine rs_marks hn hF c2 fun G hG hM => bX12_wholes_17 hn ?_
    have e5 := hG 53 5 (by decide)
    have key : ∀ t i : Nat, (t : Int) + i = g 53 5 → (∀ y, y < i → abv (g 60) k 60 y = true → (g 57 y = 2 ∨ g 57 y = 3) → whI g y ≠ 0) → V miX12_wholes (d + 2) 19 [(0, .ref 53), (1, I_ (k : Int)), (2, I_ (topI g (k : Int))), (3, I_ (i : Int))] [] n (W0 dy) G 0 0 P := by
      intro t
      induction t with
      | zero =>
        intro i hi hp
        have hw : cWh g k := fun y hy => hp y (by omega)
        have e : whT g (k : Int) = 0 := by unfold whT; rw [c, if_neg (by decide)]; exact if_pos hw
        exact bX12_wholes_19 hn ⟨⟨by omega, by omega⟩, fun _ => hg k G rfl c2 c3 hw e hG hM, fun q => by omega⟩
      | succ t ih =>
        intro i hi hp
        have em : G 75 ((i : Nat) : Int).toNat = abvI (g 60) k i := hM i (by omega)
        have e57 : G 57 ((i : Nat) : Int).toNat = g 57 i := hG 57 i (by decide)
        have nx : (abv (g 60) k 60 i = true → (g 57 i = 2 ∨ g 57 i = 3) → whI g i ≠ 0) → V miX12_wholes (d + 2) 19 [(0, .ref 53), (1, I_ (k : Int)), (2, I_ (topI g (k : Int))), (3, I_ ((i : Int) + 1))] [] n (W0 dy) G 0 0 P := fun hc => by
          rw [show ((i : Nat) : Int) + 1 = ((i + 1 : Nat) : Int) by omega]
          refine ih (i + 1) (by omega) fun y hy => ?_
          by_cases z : y = i
          · rw [z]; exact hc
          · exact hp y (by omega)
        refine bX12_wholes_19 hn ⟨⟨by omega, by omega⟩, fun q => by omega, fun _ => ⟨by omega, fun q => nx fun z => ?_, fun q => ?_⟩⟩
        · rw [em] at q
          unfold abvI at q
          rw [if_pos z] at q; omega
        · rw [em] at q
          have ab := abvI_t q
          have rod : (g 57 i = 2 ∨ g 57 i = 3) → V miX12_wholes (d + 2) 41 [(0, .ref 53), (1, I_ (k : Int)), (2, I_ (topI g (k : Int))), (3, I_ (i : Int))] [I_ 1] n (W0 dy) G 0 0 P := fun c4 => by
            have wb := whI_b (a := g) i
            refine bX12_wholes_41 hn ⟨by decide, fun z => absurd z (by decide), fun _ => spX12_isWhole hn hI (by omega) c4 (hG 59 i (by decide)) (hG 64 i (by decide)) (hG 65 i (by decide)) (bX12_wholes_49 hn ⟨⟨by omega, by omega⟩, fun z => nx fun _ _ => z, fun z => ?_⟩)⟩
            have e : whT g (k : Int) = 9 := by unfold whT; rw [c, if_neg (by decide)]; exact if_neg fun w => w i (by omega) ab c4 z
            have := hb G hG (by rw [e]; decide)
            rw [e] at this; exact this
          refine wX12_isRod hn ⟨by omega, fun z => rod (by omega), fun z => ⟨fun z2 => ?_, fun z2 => rod (by omega)⟩⟩
          exact bX12_wholes_41 hn ⟨by decide, fun _ => nx fun _ z => by omega, fun z => absurd rfl z⟩
    exact key (g 53 5).toNat 0 (by omega) (fun y hy => by omega)
  · have e : whT g x1 = topI g x1 := by unfold whT; rw [if_pos q]
    have := hb g (fun _ _ _ => rfl) (by rw [e]; exact q)
    rw [e] at this; exact this
theorem sp_findPairs {k : Nat} (hn : 100 ≤ n) (hI : Inv g) (h0 : g 60 k < 0) (hM : ∀ y : Nat, (y : Int) < g 53 5 → g 75 y = abvI (g 60) k y) (h : ∀ G, Kp g G → PA G (pall g k (g 53 5).toNat) → P none n (W0 dy) G) : Runs miX12_findPairs (d + 3) [.ref 53] n (W0 dy) g P := by
  have hN := hI.1
  have mk : ∀ G i, Kp g G → (i : Nat) < (g 53 5).toNat → G 75 ((i : Nat) : Int).toNat = abvI (g 60) k i ∧ G 57 ((i : Nat) : Int).toNat = g 57 i := fun G i hG hi => ⟨(hG 75 i (by decide) (by decide) (Or.inl (by decide))).trans (hM i (by omega)), hG 57 i (by decide) (by decide) (Or.inl (by decide))⟩
  have no : ∀ i, abvI (g 60) k i = 0 → ¬ Wt g k i := fun i q z => by
    unfold abvI at q
    rw [if_pos z.1] at q; omega
  have inner : ∀ (x : Nat) (hx : (x : Int) < g 53 5) (wx : Wt g k x) (t j : Nat) (G : Hp), (t : Int) + j = g 53 5 → x < j → Kp g G → PA G (pall g k x ++ pin g k x j) → (∀ G', Kp g G' → PA G' (pall g k (x + 1)) → V miX12_findPairs (d + 3) 7 [(0, .ref 53), (1, I_ ((x : Int) + 1))] [] n (W0 dy) G' 0 0 P) → V miX12_findPairs (d + 3) 41 [(0, .ref 53), (1, I_ (x : Int)), (2, I_ (j : Int))] [] n (W0 dy) G 0 0 P := by
    intro x hx wx t
    induction t with
    | zero =>
      intro j G hj hxj hG hP hc
      have e5 := hG 53 5 (by decide) (by decide) (by decide)
      refine bX12_findPairs_41 hn ⟨⟨by omega, by omega⟩, fun _ => hc G hG ?_, fun q => by omega⟩
      have e : pall g k (x + 1) = pall g k x ++ pin g k x (g 53 5).toNat := if_pos wx
      rw [e, ← show j = (g 53 5).toNat by omega]; exact hP
    | succ t ih =>
      intro j G hj hxj hG hP hc
      have e5 := hG 53 5 (by decide) (by decide) (by decide)
      obtain ⟨em, e57⟩ := mk G j hG (by omega)
      have skip : ¬ (Wt g k j ∧ nr g x j = 1) → ∀ G', Kp g G' → PA G' (pall g k x ++ pin g k x j) → V miX12_findPairs (d + 3) 41 [(0, .ref 53), (1, I_ (x : Int)), (2, I_ ((j : Int) + 1))] [] n (W0 dy) G' 0 0 P := fun z G' hG' hP' => by
        rw [show ((j : Nat) : Int) + 1 = ((j + 1 : Nat) : Int) by omega]
        refine ih (j + 1) G' (by omega) (by omega) hG' ?_ hc
        have e : pin g k x (j + 1) = pin g k x j := if_neg fun w => z ⟨w.1.2, w.2⟩
        rw [e]; exact hP'
      refine bX12_findPairs_41 hn ⟨⟨by omega, by omega⟩, fun q => by omega, fun _ => ⟨by omega, fun q => skip (fun z => no j (em ▸ q) z.1) G hG hP, fun q => ⟨fun q2 => skip (fun z => q2 (e57.trans z.1.2)) G hG hP, fun q2 => ?_⟩⟩⟩
      have wy : Wt g k j := ⟨abvI_t (by rw [← em]; exact q), e57.symm.trans q2⟩
      have two := Wt.two hI h0 hx (y := j) (by omega) (by omega) wx wy
      have hz := hG.rz
      have hIG := hI.cg hz
      have twoG : Two G x j := by
        unfold Two
        rw [rz_row (i := 60) hz (fun _ => rfl), rz_row (i := 57) hz (fun _ => rfl), e5]; exact two
      refine sp_near hn hIG twoG fun G1 k1 => ?_
      rw [nr_rz hz]
      have hG1 : Kp g G1 := fun i q i1 i2 i3 => (k1 i q (by omega)).trans (hG i q i1 i2 i3)
      have hP1 : PA G1 (pall g k x ++ pin g k x j) := by
        refine ⟨(k1 53 35 (by decide)).trans hP.1, fun m p e => ?_⟩
        rw [k1 81 m (Or.inl (by decide)), k1 82 m (Or.inl (by decide))]; exact hP.2 m p e
      have nb := nr_b (a := g) x j
      refine bX12_findPairs_74 hn ⟨⟨by omega, by omega⟩, fun q3 => ?_, fun q3 => skip (fun z => q3 z.2) G1 hG1 hP1⟩
      have len1 := pall_len hN.2 k x
      have len2 := pin_len (a := g) k x j
      have tb : tri x + (59 - x) ≤ 1770 := tri_b (x + 1) (by omega)
      have el : (pall g k x ++ pin g k x j).length = (pall g k x).length + (pin g k x j).length := List.length_append
      have e35 := hP1.1
      have e35n : (G1 53 35).toNat = (pall g k x ++ pin g k x j).length := by rw [e35]; rfl
      refine ⟨⟨by omega, by omega⟩, ⟨by omega, by omega⟩, ⟨by omega, by omega⟩, ⟨by omega, by omega⟩, ?_⟩
      rw [show ((j : Nat) : Int) + 1 = ((j + 1 : Nat) : Int) by omega, e35n]
      have e : pin g k x (j + 1) = pin g k x j ++ [(x, j)] := if_pos ⟨⟨hxj, wy⟩, q3⟩
      refine ih (j + 1) _ (by omega) (by omega) (fun i q i1 i2 i3 => ?_) ⟨?_, fun m p ep => ?_⟩ hc
      · rw [up2_ap, if_neg (by omega), up2_i i2, up2_i i1]; exact hG1 i q i1 i2 i3
      · rw [up2_s, e, e35, ← List.append_assoc, List.length_append (bs := [(x, j)])]; rfl
      · rw [e, ← List.append_assoc] at ep
        have u81 : ∀ v w z : Int, up2 (up2 (up2 G1 81 (pall g k x ++ pin g k x j).length v) 82 (pall g k x ++ pin g k x j).length w) 53 35 z 81 m = if m = (pall g k x ++ pin g k x j).length then v else G1 81 m := fun v w z => by
          rw [up2_i (by decide), up2_i (by decide), up2_k]
        have u82 : ∀ v w z : Int, up2 (up2 (up2 G1 81 (pall g k x ++ pin g k x j).length v) 82 (pall g k x ++ pin g k x j).length w) 53 35 z 82 m = if m = (pall g k x ++ pin g k x j).length then w else G1 82 m := fun v w z => by
          rw [up2_i (by decide), up2_k, up2_i (by decide)]
        rw [u81, u82]
        generalize pall g k x ++ pin g k x j = L at *
        by_cases c : m < L.length
        · rw [List.getElem?_append_left c] at ep
          rw [if_neg (by omega), if_neg (by omega)]; exact hP1.2 m p ep
        · rw [List.getElem?_append_right (by omega)] at ep
          have hlt := (List.getElem?_eq_some_iff.mp ep).1
          have hlt : m - L.length < 1 := hlt
          have e0 : m - L.length = 0 := by omega
          rw [e0] at ep
          have ep : (x, j) = p := by simpa using ep
          rw [if_pos (by omega), if_pos (by omega), ← ep]; exact ⟨rfl, rfl⟩
  have outer : ∀ (t i : Nat) (G : Hp), (t : Int) + i = g 53 5 → Kp g G → PA G (pall g k i) → V miX12_findPairs (d + 3) 7 [(0, .ref 53), (1, I_ (i : Int))] [] n (W0 dy) G 0 0 P := by
    intro t
    induction t with
    | zero =>
      intro i G hi hG hP
      have e5 := hG 53 5 (by decide) (by decide) (by decide)
      refine bX12_findPairs_7 hn ⟨⟨by omega, by omega⟩, fun _ => h G hG ?_, fun q => by omega⟩
      rw [← show i = (g 53 5).toNat by omega]; exact hP
    | succ t ih =>
      intro i G hi hG hP
      have e5 := hG 53 5 (by decide) (by decide) (by decide)
      obtain ⟨em, e57⟩ := mk G i hG (by omega)
      have skip : ¬ Wt g k i → V miX12_findPairs (d + 3) 7 [(0, .ref 53), (1, I_ ((i : Int) + 1))] [] n (W0 dy) G 0 0 P := fun z => by
        rw [show ((i : Nat) : Int) + 1 = ((i + 1 : Nat) : Int) by omega]
        refine ih (i + 1) G (by omega) hG ?_
        have e : pall g k (i + 1) = pall g k i := if_neg z
        rw [e]; exact hP
      refine bX12_findPairs_7 hn ⟨⟨by omega, by omega⟩, fun q => by omega, fun _ => ⟨by omega, fun q => skip (no i (em ▸ q)), fun q => ⟨fun q2 => ?_, fun q2 => skip (fun z => q2 (e57.trans z.2))⟩⟩⟩
      have wx : Wt g k i := ⟨abvI_t (by rw [← em]; exact q), e57.symm.trans q2⟩
      rw [show ((i : Nat) : Int) + 1 = ((i + 1 : Nat) : Int) by omega]
      refine inner i (by omega) wx t (i + 1) G (by omega) (by omega) hG ?_ fun G' hG' hP' => ?_
      · have e : ∀ m, m ≤ i + 1 → pin g k i m = [] := fun m hm => by
          have := pin_len (a := g) k i m
          exact List.eq_nil_of_length_eq_zero (by omega)
        rw [e (i + 1) (Nat.le_refl _), List.append_nil]; exact hP
      · rw [show ((i : Nat) : Int) + 1 = ((i + 1 : Nat) : Int) by omega]
        exact ih (i + 1) G' (by omega) hG' hP'
  refine wX12_findPairs hn (outer (g 53 5).toNat 0 _ (by omega) (fun i q i1 i2 i3 => ?_) ⟨up2_s, fun m p e => by simp [pall] at e⟩)
  rw [up2_ap, if_neg (by omega)]
end Clashes3
