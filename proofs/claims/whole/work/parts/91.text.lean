/-! TEXT: what show() writes -/
/-- the text T lies in buffer b, its length in slot s of cell c; beyond it the buffer is as it was -/
def TX (c s b : Nat) (u : Nat → Int) (G : Hp) (T : List Int) : Prop := G c s = (T.length : Int) ∧ (∀ (i : Nat) (x : Int), T[i]? = some x → i < 600 → G b i = x) ∧ ∀ i : Nat, (T.length ≤ i ∨ 600 ≤ i) → G b i = u i
def dgs : Nat → Nat → List Int
  | 0, _ => []
  | k + 1, v => ((48 + v / 10 ^ k % 10 : Nat) : Int) :: dgs k v
def jz (v : Nat) : Nat := if v < 10 then 0 else if v < 100 then 1 else if v < 1000 then 2 else if v < 10000 then 3 else if v < 100000 then 4 else if v < 1000000 then 5 else if v < 10000000 then 6 else if v < 100000000 then 7 else if v < 1000000000 then 8 else 9
def num (v : Nat) : List Int := dgs (jz v + 1) v
theorem dgs_len : ∀ k v : Nat, (dgs k v).length = k
  | 0, _ => rfl
  | k + 1, v => by show (dgs k v).length + 1 = k + 1; rw [dgs_len k v]
theorem jz_b (v : Nat) : jz v ≤ 9 := by
  unfold jz
  repeat' split
  all_goals omega
theorem jz_hi {v : Nat} (h : v < 10000000000) : v < 10 ^ (jz v + 1) := by
  unfold jz
  repeat' split
  all_goals omega
theorem jz_lo (v : Nat) : jz v = 0 ∨ 10 ^ jz v ≤ v := by
  unfold jz
  repeat' split
  all_goals omega
theorem ten_le {i j : Nat} (h : i ≤ j) : 10 ^ i ≤ 10 ^ j := Nat.pow_le_pow_right (by decide) h
theorem ten_b {j : Nat} (h : j ≤ 10) : 1 ≤ 10 ^ j ∧ 10 ^ j ≤ 10000000000 := ⟨Nat.pow_pos (by decide), Nat.le_trans (ten_le h) (by decide)⟩
/-- the unit at which r digits are left -/
def pw (r : Nat) : Nat := if r = 0 then 0 else 10 ^ (r - 1)
theorem pw_s (r : Nat) : pw (r + 1) = 10 ^ r := if_neg (by omega)
theorem pw_d (r : Nat) : ((pw (r + 1) : Nat) : Int).tdiv 10 = ((pw r : Nat) : Int) := by
  show ((pw (r + 1) / 10 : Nat) : Int) = ((pw r : Nat) : Int)
  rw [pw_s]
  unfold pw
  cases r with
  | zero => rfl
  | succ r => rw [if_neg (by omega), Nat.pow_succ, Nat.mul_div_cancel _ (by decide)]; rfl
section Text
variable {d n : Nat} {dy : Nat → Shp} {G : Hp} {P : Pst} {T : List Int} {u : Nat → Int}
theorem TX.app {c s b : Nat} {G' : Hp} {x : Int} (h : TX c s b u G T) (e1 : G' c s = G c s + 1) (e2 : ∀ i : Nat, G' b i = if i = T.length ∧ i < 600 then x else G b i) : TX c s b u G' (T ++ [x]) := by
  refine ⟨?_, fun i y e hi => ?_, fun i hi => ?_⟩
  · rw [e1, h.1, List.length_append]; rfl
  · rw [e2 i]
    by_cases l : i < T.length
    · rw [List.getElem?_append_left l] at e
      rw [if_neg (by omega)]; exact h.2.1 i y e hi
    · rw [List.getElem?_append_right (by omega)] at e
      have hlt := (List.getElem?_eq_some_iff.mp e).1
      have hlt : i - T.length < 1 := hlt
      rw [show i - T.length = 0 by omega] at e
      have e : x = y := by simpa using e
      rw [if_pos (by omega), e]
  · rw [List.length_append] at hi
    have hi : T.length + 1 ≤ i ∨ 600 ≤ i := hi
    rw [e2 i, if_neg (by omega)]
    exact h.2.2 i (by omega)
/-- all but the reference's text -/
def FrR (G G' : Hp) : Prop := ∀ i q, i ≠ 78 → (i ≠ 53 ∨ q ≠ 29) → G' i q = G i q
def FrC (G G' : Hp) : Prop := ∀ i q, i ≠ 38 → (i ≠ 37 ∨ q ≠ 1) → G' i q = G i q
theorem FrR.trans {G1 G2 : Hp} (h : FrR G G1) (h' : FrR G1 G2) : FrR G G2 := fun i q i1 i2 => (h' i q i1 i2).trans (h i q i1 i2)
theorem FrC.trans {G1 G2 : Hp} (h : FrC G G1) (h' : FrC G1 G2) : FrC G G2 := fun i q i1 i2 => (h' i q i1 i2).trans (h i q i1 i2)
theorem c2b_t : ∀ x : Fin 128, c2b (x.val : Int) = (x.val : Int) := by decide +kernel
theorem c2c_t : ∀ x : Fin 128, c2c (x.val : Int) = (x.val : Int) := by decide +kernel
theorem sp_put {x : Nat} (hn : 100 ≤ n) (hT : TX 53 29 78 u G T) (hl : T.length ≤ 5000) (hx : x < 128) (h : ∀ G', FrR G G' → TX 53 29 78 u G' (T ++ [(x : Int)]) → P none n (W0 dy) G') : Runs miX12_put d [.ref 53, I_ (x : Int)] n (W0 dy) G P := by
  have e := hT.1
  have c := c2b_t ⟨x, hx⟩
  have c : c2b (x : Int) = (x : Int) := c
  refine wX12_put hn ⟨fun q => ⟨⟨by omega, by omega⟩, h _ (fun i q i1 i2 => ?_) (hT.app up2_s (fun i => ?_))⟩, fun q => ⟨⟨by omega, by omega⟩, ⟨by omega, by omega⟩, h _ (fun i q i1 i2 => ?_) (hT.app up2_s (fun i => ?_))⟩⟩
  · rw [up2_ap, if_neg (by omega)]
  · rw [up2_i (by decide), if_neg (by omega)]
  · rw [up2_ap, if_neg (by omega), up2_i i1]
  · rw [up2_i (by decide), up2_k, c, show (G 53 29).toNat = T.length by omega]
    by_cases z : i = T.length
    · rw [if_pos z, if_pos (by omega)]
    · rw [if_neg z, if_neg fun w => z w.1]
theorem cs_put {x : Nat} (hn : 100 ≤ n) (hT : TX 37 1 38 u G T) (hl : T.length ≤ 5000) (hx : x < 128) (h : ∀ G', FrC G G' → TX 37 1 38 u G' (T ++ [(x : Int)]) → P none n (W0 dy) G') : Runs miX8_put d [.ref 37, I_ (x : Int)] n (W0 dy) G P := by
  have e := hT.1
  have c := c2b_t ⟨x, hx⟩
  have c : c2b (x : Int) = (x : Int) := c
  refine wX8_put hn ⟨fun q => ⟨⟨by omega, by omega⟩, h _ (fun i q i1 i2 => ?_) (hT.app up2_s (fun i => ?_))⟩, fun q => ⟨⟨by omega, by omega⟩, ⟨by omega, by omega⟩, h _ (fun i q i1 i2 => ?_) (hT.app up2_s (fun i => ?_))⟩⟩
  · rw [up2_ap, if_neg (by omega)]
  · rw [up2_i (by decide), if_neg (by omega)]
  · rw [up2_ap, if_neg (by omega), up2_i i1]
  · rw [up2_i (by decide), up2_k, c, show (G 37 1).toNat = T.length by omega]
    by_cases z : i = T.length
    · rw [if_pos z, if_pos (by omega)]
    · rw [if_neg z, if_neg fun w => z w.1]
theorem sp_putNumber {v : Nat} (hn : 100 ≤ n) (hT : TX 53 29 78 u G T) (hl : T.length + 10 ≤ 5000) (hv : v < 10000000000) (h : ∀ G', FrR G G' → TX 53 29 78 u G' (T ++ num v) → P none n (W0 dy) G') : Runs miX12_putNumber (d + 1) [.ref 53, L_ (v : Int)] n (W0 dy) G P := by
  have j9 := jz_b v
  have hi := jz_hi hv
  have lo := jz_lo v
  have two : ∀ (r : Nat) (G' : Hp) (T' : List Int), r ≤ 10 → FrR G G' → TX 53 29 78 u G' T' → T'.length + r ≤ 5000 → T' ++ dgs r v = T ++ num v → V miX12_putNumber (d + 1) 21 [(0, .ref 53), (1, L_ (v : Int)), (3, L_ ((pw r : Nat) : Int))] [] n (W0 dy) G' 0 0 P := by
    intro r
    induction r with
    | zero =>
      intro G' T' hr hF hT' hl' e
      have e : T' ++ [] = T ++ num v := e
      rw [List.append_nil] at e
      rw [e] at hT'
      exact bX12_putNumber_21 hn ⟨by decide, fun _ => h G' hF hT', fun q => absurd q (by decide)⟩
    | succ r ih =>
      intro G' T' hr hF hT' hl' e
      have tb := ten_b (j := r) (by omega)
      have pd := pw_d r
      rw [pw_s] at pd ⊢
      have dv : v / 10 ^ r ≤ v := Nat.div_le_self _ _
      have e : T' ++ ((48 + v / 10 ^ r % 10 : Nat) : Int) :: dgs r v = T ++ num v := e
      have md := Nat.mod_lt (v / 10 ^ r) (show 0 < 10 by decide)
      refine bX12_putNumber_21 hn ⟨⟨by omega, by omega⟩, fun q => by omega, fun _ => ⟨⟨by omega, by omega⟩, by omega, ⟨?_, ?_⟩, ?_⟩⟩
      · show _ ≤ ((v / 10 ^ r : Nat) : Int); exact Int.le_trans (b := 0) (by decide) (Int.natCast_nonneg _)
      · show ((v / 10 ^ r : Nat) : Int) ≤ _; omega
      · show Runs miX12_put d [.ref 53, I_ ((48 + v / 10 ^ r % 10 : Nat) : Int)] n (W0 dy) G' _
        refine sp_put hn hT' (by omega) (by omega) fun G2 hF2 hT2 => bX12_putNumber_43 hn ⟨⟨by omega, by omega⟩, ?_⟩
        rw [pd]
        exact ih G2 _ (by omega) (hF.trans hF2) hT2 (by rw [List.length_append]; show T'.length + 1 + r ≤ 5000; omega) (by rw [List.append_assoc]; exact e)
  have one : ∀ m j : Nat, m + j = jz v → V miX12_putNumber (d + 1) 2 [(0, .ref 53), (1, L_ (v : Int)), (3, L_ ((10 ^ j : Nat) : Int))] [] n (W0 dy) G 0 0 P := by
    intro m
    induction m with
    | zero =>
      intro j hj
      have ej : j = jz v := by omega
      have tb := ten_b (j := j) (by omega)
      have dv : v / 10 ^ j ≤ 9 := by
        rw [ej]
        rw [Nat.pow_succ] at hi
        have := Nat.div_lt_of_lt_mul hi
        omega
      refine bX12_putNumber_2 hn ⟨⟨by omega, by omega⟩, ⟨by omega, by omega⟩, by omega, ⟨?_, ?_⟩, fun _ => ?_, fun q => ?_⟩
      · show _ ≤ ((v / 10 ^ j : Nat) : Int); exact Int.le_trans (b := 0) (by decide) (Int.natCast_nonneg _)
      · show ((v / 10 ^ j : Nat) : Int) ≤ _; omega
      · have := two (j + 1) G T (by omega) (fun _ _ _ _ => rfl) hT (by omega) (by rw [ej]; rfl)
        rw [pw_s] at this; exact this
      · have q : (9 : Int) < ((v / 10 ^ j : Nat) : Int) := q
        omega
    | succ m ih =>
      intro j hj
      have tb := ten_b (j := j) (by omega)
      have big : 10 ^ (j + 1) ≤ v := Nat.le_trans (ten_le (by omega)) (lo.resolve_left (by omega))
      have dv : 10 ≤ v / 10 ^ j := by
        rw [Nat.pow_succ] at big
        exact (Nat.le_div_iff_mul_le (by omega)).mpr (by rw [Nat.mul_comm]; exact big)
      have dl : v / 10 ^ j ≤ v := Nat.div_le_self _ _
      refine bX12_putNumber_2 hn ⟨⟨by omega, by omega⟩, ⟨by omega, by omega⟩, by omega, ⟨?_, ?_⟩, fun q => ?_, fun _ => ?_⟩
      · show _ ≤ ((v / 10 ^ j : Nat) : Int); exact Int.le_trans (b := 0) (by decide) (Int.natCast_nonneg _)
      · show ((v / 10 ^ j : Nat) : Int) ≤ _; omega
      · have q : ((v / 10 ^ j : Nat) : Int) ≤ 9 := q
        omega
      · rw [show ((10 ^ j : Nat) : Int) * 10 = ((10 ^ (j + 1) : Nat) : Int) by rw [Nat.pow_succ]; omega]
        exact ih (j + 1) (by omega)
  exact wX12_putNumber hn (one (jz v) 0 (by omega))
theorem cs_putNumber {v : Nat} (hn : 100 ≤ n) (hT : TX 37 1 38 u G T) (hl : T.length + 10 ≤ 5000) (hv : v ≤ 2147483647) (h : ∀ G', FrC G G' → TX 37 1 38 u G' (T ++ num v) → P none n (W0 dy) G') : Runs miX8_putNumber (d + 1) [.ref 37, I_ (v : Int)] n (W0 dy) G P := by
  have j9 := jz_b v
  have hi := jz_hi (v := v) (by omega)
  have lo := jz_lo v
  have nine : ∀ r : Nat, r ≤ 9 → 1 ≤ 10 ^ r ∧ 10 ^ r ≤ 1000000000 := fun r hr => ⟨Nat.pow_pos (by decide), Nat.le_trans (ten_le hr) (by decide)⟩
  -- begun or about to begin
  have two : ∀ (r : Nat) (b : Int) (G' : Hp) (T' : List Int), r ≤ 10 → (b = 1 ∨ (b = 0 ∧ r = jz v + 1)) → FrC G G' → TX 37 1 38 u G' T' → T'.length + r ≤ 5000 → T' ++ dgs r v = T ++ num v → V miX8_putNumber (d + 1) 5 [(0, .ref 37), (1, I_ (v : Int)), (2, I_ b), (3, I_ ((pw r : Nat) : Int))] [] n (W0 dy) G' 0 0 P := by
    intro r
    induction r with
    | zero =>
      intro b G' T' hr hb hF hT' hl' e
      have e : T' ++ [] = T ++ num v := e
      rw [List.append_nil] at e
      rw [e] at hT'
      exact bX8_putNumber_5 hn ⟨by decide, fun _ => h G' hF hT', fun q => absurd q (by decide)⟩
    | succ r ih =>
      intro b G' T' hr hb hF hT' hl' e
      have tb := nine r (by omega)
      have pd := pw_d r
      rw [pw_s] at pd ⊢
      have dv : v / 10 ^ r ≤ v := Nat.div_le_self _ _
      have e : T' ++ ((48 + v / 10 ^ r % 10 : Nat) : Int) :: dgs r v = T ++ num v := e
      have md := Nat.mod_lt (v / 10 ^ r) (show 0 < 10 by decide)
      have go : Runs miX8_put d [.ref 37, I_ (c2c (48 + (((v : Nat) : Int).tdiv ((10 ^ r : Nat) : Int)).tmod 10))] n (W0 dy) G' (fun w n' S' g' => V miX8_putNumber (d + 1) 51 [(0, .ref 37), (1, I_ (v : Int)), (2, I_ 1), (3, I_ ((10 ^ r : Nat) : Int)), (4, I_ ((((v : Nat) : Int).tdiv ((10 ^ r : Nat) : Int)).tmod 10))] (w.toList ++ []) n' S' g' 0 0 P) := by
        have ec : c2c (48 + (((v : Nat) : Int).tdiv ((10 ^ r : Nat) : Int)).tmod 10) = ((48 + v / 10 ^ r % 10 : Nat) : Int) := c2c_t ⟨48 + v / 10 ^ r % 10, by omega⟩
        rw [ec]
        refine cs_put hn hT' (by omega) (by omega) fun G2 hF2 hT2 => bX8_putNumber_51 hn ⟨⟨by omega, by omega⟩, ?_⟩
        rw [pd]
        exact ih 1 G2 _ (by omega) (Or.inl rfl) (hF.trans hF2) hT2 (by rw [List.length_append]; show T'.length + 1 + r ≤ 5000; omega) (by rw [List.append_assoc]; exact e)
      refine bX8_putNumber_5 hn ⟨⟨by omega, by omega⟩, fun q => by omega, fun _ => ⟨⟨by omega, by omega⟩, by omega, ⟨?_, ?_⟩, ⟨by omega, by omega⟩, fun _ => go, fun q => ⟨⟨?_, ?_⟩, fun _ => go, fun q2 => ⟨fun q3 => ?_, fun _ => go⟩⟩⟩⟩
      · show _ ≤ ((v / 10 ^ r : Nat) : Int); exact Int.le_trans (b := 0) (by decide) (Int.natCast_nonneg _)
      · show ((v / 10 ^ r : Nat) : Int) ≤ _; omega
      · show _ ≤ ((v / 10 ^ r % 10 : Nat) : Int); exact Int.le_trans (b := 0) (by decide) (Int.natCast_nonneg _)
      · show ((v / 10 ^ r % 10 : Nat) : Int) ≤ _; omega
      · exfalso
        have er : r = jz v := by omega
        have q2 : ((v / 10 ^ r % 10 : Nat) : Int) = 0 := q2
        have r0 : r ≠ 0 := fun z => by rw [z] at q3; exact q3 rfl
        have big := lo.resolve_left (by omega)
        rw [← er] at big hi
        have d1 : 1 ≤ v / 10 ^ r := (Nat.le_div_iff_mul_le (by omega)).mpr (by omega)
        have d2 : v / 10 ^ r ≤ 9 := by
          rw [Nat.pow_succ] at hi
          have := Nat.div_lt_of_lt_mul hi
          omega
        omega
  have one : ∀ m : Nat, jz v + m ≤ 9 → V miX8_putNumber (d + 1) 5 [(0, .ref 37), (1, I_ (v : Int)), (2, I_ 0), (3, I_ ((pw (jz v + m + 1) : Nat) : Int))] [] n (W0 dy) G 0 0 P := by
    intro m
    induction m with
    | zero =>
      intro hu
      exact two (jz v + 1) 0 G T (by omega) (Or.inr ⟨rfl, rfl⟩) (fun _ _ _ _ => rfl) hT (by omega) rfl
    | succ m ih =>
      intro hu
      have tb := nine (jz v + (m + 1)) (by omega)
      have pd := pw_d (jz v + (m + 1))
      rw [pw_s] at pd ⊢
      have z : v / 10 ^ (jz v + (m + 1)) = 0 := Nat.div_eq_of_lt (Nat.lt_of_lt_of_le hi (ten_le (by omega)))
      have ez : (((v : Nat) : Int).tdiv ((10 ^ (jz v + (m + 1)) : Nat) : Int)) = 0 := by show ((v / 10 ^ (jz v + (m + 1)) : Nat) : Int) = 0; rw [z]; rfl
      have ne1 : 10 ^ (jz v + (m + 1)) ≠ 1 := by
        have := ten_le (i := 1) (j := jz v + (m + 1)) (by omega)
        omega
      refine bX8_putNumber_5 hn ⟨⟨by omega, by omega⟩, fun q => by omega, fun _ => ⟨⟨by omega, by omega⟩, by omega, ?_⟩⟩
      rw [ez]
      refine ⟨by decide, by decide, fun q => absurd rfl q, fun _ => ⟨by decide, fun q => absurd rfl q, fun _ => ⟨fun _ => bX8_putNumber_51 hn ⟨⟨by omega, by omega⟩, ?_⟩, fun q => by omega⟩⟩⟩
      rw [pd]
      exact ih (by omega)
  have := one (9 - jz v) (by omega)
  rw [show jz v + (9 - jz v) + 1 = 10 by omega] at this
  exact wX8_putNumber hn this
end Text
