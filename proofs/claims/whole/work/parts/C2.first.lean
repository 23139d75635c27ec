/-! THE FIRST WAY -/
section First
variable (N : Nat) (v w : Nat → Int)
/-- f lays the numbers of S on the places from e on, as each place wants -/
def As (m e S : Nat) (f : Nat → Nat) : Prop := (∀ i, i < N → S.testBit i = true → e ≤ f i ∧ f i < m) ∧ ∀ e', e ≤ e' → e' < m → sumN (fun i => if S.testBit i = true ∧ f i = e' then v i else 0) N = w e'
/-- like numbers lie in order -/
def can (S : Nat) (f : Nat → Nat) : Prop := ∀ i j, i < j → j < N → S.testBit i = true → S.testBit j = true → v i = v j → f i ≤ f j
/-- the row of places as an octal number -/
def hr (f : Nat → Nat) : Nat → Nat
  | 0 => 0
  | n + 1 => 8 * hr f n + f n
def msk (S : Nat) (f : Nat → Nat) (i : Nat) : Nat := if S.testBit i = true then f i else 0
variable {N v w}
theorem hr_cg {f f' : Nat → Nat} : ∀ n, (∀ i, i < n → f i = f' i) → hr f n = hr f' n
  | 0, _ => rfl
  | n + 1, h => by
    show 8 * hr f n + f n = 8 * hr f' n + f' n
    rw [hr_cg n (fun i hi => h i (by omega)), h n (by omega)]
theorem hr_lt {f f' : Nat → Nat} {i : Nat} (h : ∀ j, j < i → f j = f' j) (hi : f i < f' i) : ∀ n, (∀ j, j < n → f j < 8) → i < n → hr f n < hr f' n
  | 0, _, e => by omega
  | n + 1, hb, e => by
    show 8 * hr f n + f n < 8 * hr f' n + f' n
    by_cases c : i = n
    · subst c
      rw [hr_cg i h]; omega
    · have := hr_lt h hi n (fun j hj => hb j (by omega)) (by omega)
      have := hb n (by omega)
      omega
theorem ex_min {α : Type} (p : α → Prop) (r : α → Nat) : (∃ a, p a) → ∃ a, p a ∧ ∀ b, p b → r a ≤ r b := by
  rintro ⟨a, ha⟩
  have key : ∀ n a, p a → r a ≤ n → ∃ a, p a ∧ ∀ b, p b → r a ≤ r b := fun n => by
    induction n with
    | zero => exact fun a ha h => ⟨a, ha, fun b _ => by omega⟩
    | succ n ih =>
      intro a ha h
      rcases Classical.em (∃ b, p b ∧ r b < r a) with ⟨b, hb, hl⟩ | c
      · exact ih b hb (by omega)
      · exact ⟨a, ha, fun b hb => by
          rcases Nat.lt_or_ge (r b) (r a) with q | q
          · exact absurd ⟨b, hb, q⟩ c
          · exact q⟩
  exact key (r a) a ha (Nat.le_refl _)
theorem Rr_ex {m : Nat} : ∀ r e S, e + r = m → S < 2 ^ N → 0 < Rr N v w m r S → ∃ f, As N v w m e S f
  | 0, e, S, he, hS, h => by
    have h0 := (iv_pos (h : 0 < iv (S = 0) 1)).1
    subst h0
    exact ⟨fun _ => 0, fun i _ hb => by rw [Nat.zero_testBit] at hb; exact absurd hb (by decide), fun e' h1 h2 => by omega⟩
  | r + 1, e, S, he, hS, h => by
    obtain ⟨t, ht, hp⟩ := sumN_ex (2 ^ N) (fun t _ => iv_nn (Rr_nn r _)) (h : 0 < sumN (fun t => iv (sb t S ∧ sm N v t = w (m - 1 - r) ∧ fsO N v t S) (Rr N v w m r (S ^^^ t))) (2 ^ N))
    obtain ⟨⟨hs, hm, _⟩, hr⟩ := iv_pos hp
    obtain ⟨f', hf1, hf2⟩ := Rr_ex r (e + 1) (S ^^^ t) (by omega) (xr_lt hS ht) hr
    rw [show m - 1 - r = e by omega] at hm
    have bx : ∀ i, (S ^^^ t).testBit i = (S.testBit i).xor (t.testBit i) := fun i => Nat.testBit_xor ..
    refine ⟨fun i => if t.testBit i = true then e else f' i, fun i hi hb => ?_, fun e' h1 h2 => ?_⟩
    · show e ≤ (if t.testBit i = true then e else f' i) ∧ (if t.testBit i = true then e else f' i) < m
      by_cases c : t.testBit i = true
      · rw [if_pos c]; omega
      · rw [if_neg c]
        have := hf1 i hi (by rw [bx, hb]; revert c; cases t.testBit i <;> decide)
        omega
    · by_cases c : e' = e
      · subst c
        rw [← hm]
        refine sumN_cg N fun i hi => ?_
        show (if S.testBit i = true ∧ (if t.testBit i = true then e' else f' i) = e' then v i else 0) = if t.testBit i = true then v i else 0
        by_cases q : t.testBit i = true
        · rw [if_pos q, if_pos q, if_pos ⟨hs i q, rfl⟩]
        · rw [if_neg q, if_neg q]
          refine if_neg fun z => ?_
          have := (hf1 i hi (by rw [bx, z.1]; revert q; cases t.testBit i <;> decide)).1
          omega
      · rw [← hf2 e' (by omega) h2]
        refine sumN_cg N fun i hi => ?_
        show (if S.testBit i = true ∧ (if t.testBit i = true then e else f' i) = e' then v i else 0) = if (S ^^^ t).testBit i = true ∧ f' i = e' then v i else 0
        rw [bx]
        by_cases q : t.testBit i = true
        · rw [if_pos q, hs i q, q, if_neg (fun z => by omega), if_neg (fun z => absurd z.1 (by decide))]
        · rw [if_neg q]
          have q' : t.testBit i = false := by revert q; cases t.testBit i <;> decide
          rw [q', Bool.xor_false]
theorem Rr_can {m : Nat} {f : Nat → Nat} : ∀ r e S, e + r = m → S < 2 ^ N → As N v w m e S f → can N v S f → 0 < Rr N v w m r S
  | 0, e, S, he, hS, h, hc => by
    have h0 : S = 0 := ns_eq hS (p2_pos N) fun i hi => by
      rw [Nat.zero_testBit]
      cases c : S.testBit i
      · rfl
      · have := h.1 i hi c; omega
    show 0 < iv (S = 0) 1
    rw [iv_t h0]; decide
  | r + 1, e, S, he, hS, h, hc => by
    have ht := mkS_lt (fun i => S.testBit i && decide (f i = e)) N
    have tb : ∀ i, i < N → (mkS (fun i => S.testBit i && decide (f i = e)) N).testBit i = (S.testBit i && decide (f i = e)) := fun i hi => mkS_tb _ N i hi
    generalize mkS (fun i => S.testBit i && decide (f i = e)) N = t at ht tb
    have bx : ∀ i, (S ^^^ t).testBit i = (S.testBit i).xor (t.testBit i) := fun i => Nat.testBit_xor ..
    have tt : ∀ i, i < N → (t.testBit i = true ↔ S.testBit i = true ∧ f i = e) := fun i hi => by
      rw [tb i hi, Bool.and_eq_true, decide_eq_true_iff]
    have xx : ∀ i, i < N → ((S ^^^ t).testBit i = true ↔ S.testBit i = true ∧ f i ≠ e) := fun i hi => by
      rw [bx, tb i hi]
      cases S.testBit i
      · rw [Bool.false_and]; exact ⟨fun z => absurd z (by decide), fun z => absurd z.1 (by decide)⟩
      · by_cases q : f i = e
        · rw [decide_eq_true q]; exact ⟨fun z => absurd z (by decide), fun z => absurd q z.2⟩
        · rw [decide_eq_false q]; exact ⟨fun _ => ⟨rfl, q⟩, fun _ => rfl⟩
    refine sumN_pos (f := fun t => iv (sb t S ∧ sm N v t = w (m - 1 - r) ∧ fsO N v t S) (Rr N v w m r (S ^^^ t))) (fun t _ => iv_nn (Rr_nn r _)) ht ?_
    show 0 < iv (sb t S ∧ sm N v t = w (m - 1 - r) ∧ fsO N v t S) (Rr N v w m r (S ^^^ t))
    rw [iv_t]
    · refine Rr_can (f := f) r (e + 1) (S ^^^ t) (by omega) (xr_lt hS ht) ⟨fun i hi hb => ?_, fun e' h1 h2 => ?_⟩ fun i j hij hj hi' hj' hv => ?_
      · obtain ⟨q1, q2⟩ := (xx i hi).mp hb
        have := h.1 i hi q1
        omega
      · rw [← h.2 e' (by omega) h2]
        refine sumN_cg N fun i hi => ?_
        show (if (S ^^^ t).testBit i = true ∧ f i = e' then v i else 0) = if S.testBit i = true ∧ f i = e' then v i else 0
        by_cases q : S.testBit i = true ∧ f i = e'
        · rw [if_pos q, if_pos ⟨(xx i hi).mpr ⟨q.1, by omega⟩, q.2⟩]
        · rw [if_neg q, if_neg (fun z => q ⟨((xx i hi).mp z.1).1, z.2⟩)]
      · exact hc i j hij hj ((xx i (by omega)).mp hi').1 ((xx j hj).mp hj').1 hv
    · refine ⟨fun i hi => ((tt i (tb_lt hi ht)).mp hi).1, ?_, fun k hk hb i hik hv hS' => ?_⟩
      · rw [show m - 1 - r = e by omega, ← h.2 e (Nat.le_refl e) (by omega)]
        refine sumN_cg N fun i hi => ?_
        show (if t.testBit i = true then v i else 0) = if S.testBit i = true ∧ f i = e then v i else 0
        by_cases q : S.testBit i = true ∧ f i = e
        · rw [if_pos q, if_pos ((tt i hi).mpr q)]
        · rw [if_neg q, if_neg (fun z => q ((tt i hi).mp z))]
      · obtain ⟨q1, q2⟩ := (tt k hk).mp hb
        have h1 := hc i k hik hk hS' q1 hv
        have h2 := (h.1 i (by omega) hS').1
        exact (tt i (by omega)).mpr ⟨hS', by omega⟩
theorem sumN_upd2 {F G : Nat → Int} {i j n : Nat} (hi : i < n) (hj : j < n) (hij : i ≠ j) (e : ∀ y, y < n → y ≠ i → y ≠ j → F y = G y) : sumN F n = sumN G n + (F i - G i) + (F j - G j) := by
  have h1 := sumN_upd (f := F) (h := fun y => if y = i then G i else F y) hi (fun y _ q => (if_neg q).symm)
  have h2 := sumN_upd (f := fun y => if y = i then G i else F y) (h := G) hj (fun y hy q => by
    show (if y = i then G i else F y) = G y
    by_cases c : y = i
    · rw [if_pos c, c]
    · rw [if_neg c]; exact e y hy c q)
  have e1 : (if i = i then G i else F i) = G i := if_pos rfl
  have e2 : (if j = i then G i else F j) = F j := if_neg (fun q => hij q.symm)
  rw [e1] at h1
  rw [e2] at h2
  omega
/-- two like numbers that lie the wrong way round are exchanged -/
theorem As_swap {m e S : Nat} {f : Nat → Nat} (h : As N v w m e S f) {i j : Nat} (hij : i < j) (hj : j < N) (hSi : S.testBit i = true) (hSj : S.testBit j = true) (hv : v i = v j) :
    As N v w m e S (fun x => if x = i then f j else if x = j then f i else f x) := by
  refine ⟨fun x hx hb => ?_, fun e' h1 h2 => ?_⟩
  · show e ≤ (if x = i then f j else if x = j then f i else f x) ∧ (if x = i then f j else if x = j then f i else f x) < m
    split
    · exact h.1 j hj hSj
    · split
      · exact h.1 i (by omega) hSi
      · exact h.1 x hx hb
  · rw [← h.2 e' h1 h2]
    rw [sumN_upd2 (F := fun x => if S.testBit x = true ∧ (if x = i then f j else if x = j then f i else f x) = e' then v x else 0) (G := fun x => if S.testBit x = true ∧ f x = e' then v x else 0) (i := i) (j := j) (by omega) hj (by omega) (fun y _ q1 q2 => by
      show (if S.testBit y = true ∧ (if y = i then f j else if y = j then f i else f y) = e' then v y else 0) = _
      rw [if_neg q1, if_neg q2])]
    have e1 : (if S.testBit i = true ∧ (if i = i then f j else if i = j then f i else f i) = e' then v i else 0) = if f j = e' then v i else 0 := by
      rw [if_pos rfl]
      by_cases c : f j = e'
      · rw [if_pos c, if_pos ⟨hSi, c⟩]
      · rw [if_neg c, if_neg (fun z => c z.2)]
    have e2 : (if S.testBit j = true ∧ (if j = i then f j else if j = j then f i else f j) = e' then v j else 0) = if f i = e' then v j else 0 := by
      rw [if_neg (by omega : ¬ j = i), if_pos rfl]
      by_cases c : f i = e'
      · rw [if_pos c, if_pos ⟨hSj, c⟩]
      · rw [if_neg c, if_neg (fun z => c z.2)]
    have e3 : (if S.testBit i = true ∧ f i = e' then v i else 0) = if f i = e' then v i else 0 := by
      by_cases c : f i = e'
      · rw [if_pos c, if_pos ⟨hSi, c⟩]
      · rw [if_neg c, if_neg (fun z => c z.2)]
    have e4 : (if S.testBit j = true ∧ f j = e' then v j else 0) = if f j = e' then v j else 0 := by
      by_cases c : f j = e'
      · rw [if_pos c, if_pos ⟨hSj, c⟩]
      · rw [if_neg c, if_neg (fun z => c z.2)]
    rw [e1, e2, e3, e4, hv]
    omega
theorem As_can {m e S : Nat} {f : Nat → Nat} (hm : m ≤ 8) (h : As N v w m e S f) (hl : ∀ f', As N v w m e S f' → hr (msk S f) N ≤ hr (msk S f') N) : can N v S f := fun i j hij hj hi' hj' hv => by
  rcases Nat.lt_or_ge (f j) (f i) with c | c
  · have h1 := hl _ (As_swap h hij hj hi' hj' hv)
    have hf := As_swap h hij hj hi' hj' hv
    have h2 := hr_lt (f := msk S (fun x => if x = i then f j else if x = j then f i else f x)) (f' := msk S f) (i := i) (fun x hx => by
      show (if S.testBit x = true then (if x = i then f j else if x = j then f i else f x) else 0) = if S.testBit x = true then f x else 0
      rw [if_neg (by omega : ¬ x = i), if_neg (by omega : ¬ x = j)]) (by
      show (if S.testBit i = true then (if i = i then f j else if i = j then f i else f i) else 0) < if S.testBit i = true then f i else 0
      rw [if_pos hi', if_pos hi', if_pos rfl]; exact c) N (fun x hx => by
      unfold msk
      split
      · next q => have := (hf.1 x hx q).2; omega
      · omega) (by omega)
    omega
  · exact c
/-- there is a way just if there is one to lay the numbers so -/
theorem Rr_iff {m e S r : Nat} (hm : m ≤ 8) (he : e + r = m) (hS : S < 2 ^ N) : 0 < Rr N v w m r S ↔ ∃ f, As N v w m e S f := by
  refine ⟨Rr_ex r e S he hS, fun h => ?_⟩
  obtain ⟨f, hf, hl⟩ := ex_min (fun f => As N v w m e S f) (fun f => hr (msk S f) N) h
  exact Rr_can r e S he hS hf (As_can hm hf hl)
end First
