/-! THE FIRST WAY, NUMBER BY NUMBER; AND AS THE LEAST ROW OF CHAINS -/
section Greedy
variable (N : Nat) (v w : Nat → Int)
def Mn (m : Nat) (f : Nat → Nat) : Prop := As N v w m 0 (2 ^ N - 1) f ∧ ∀ f', As N v w m 0 (2 ^ N - 1) f' → hr f N ≤ hr f' N
/-- what the numbers ahead of the i-th have laid on place e -/
def pl (f : Nat → Nat) (i e : Nat) : Int := sumN (fun j => if f j = e then v j else 0) i
/-- a chain of sets in order: its places -/
def Gg (p T : Nat) (f : Nat → Nat) : Prop := As N v w p 0 T f ∧ ino N v T ∧ can N v T f
def roI (T : Nat) (f : Nat → Nat) : Int := sumN (fun i => if T.testBit i = true then (f i : Int) * 8 ^ (N - 1 - i) else 0) N
def dg (T : Nat) : Int := sumN (fun i => if T.testBit i = true then 8 ^ (N - 1 - i) else 0) N
/-- x is the least row -/
def Fl (p T : Nat) (x : Int) : Prop := (∃ f, Gg N v w p T f ∧ x = roI N T f) ∧ ∀ f, Gg N v w p T f → x ≤ roI N T f
variable {N v w}
theorem sumN_cut (h : Nat → Int) {i : Nat} : ∀ n, i ≤ n → sumN (fun j => if j < i then h j else 0) n = sumN h i
  | 0, e => by
    have : i = 0 := by omega
    subst this; rfl
  | n + 1, e => by
    show sumN (fun j => if j < i then h j else 0) n + (if n < i then h n else 0) = sumN h i
    by_cases c : i ≤ n
    · rw [sumN_cut h n c, if_neg (by omega)]; omega
    · have e' : i = n + 1 := by omega
      subst e'
      rw [if_pos (by omega), sumN_cg n (h := h) (fun y hy => if_pos (by omega))]
      rfl
theorem msk_full (f : Nat → Nat) : hr (msk (2 ^ N - 1) f) N = hr f N := hr_cg N fun i hi => by
  show (if (2 ^ N - 1).testBit i = true then f i else 0) = f i
  rw [tb_full, if_pos (decide_eq_true hi)]
theorem Mn_ex {m : Nat} (hm : m ≤ 8) (h : 0 < Rr N v w m m (2 ^ N - 1)) : ∃ f, Mn N v w m f := by
  have h1 := (Rr_iff (e := 0) hm (by omega) (full_lt N)).mp h
  exact ex_min (fun f => As N v w m 0 (2 ^ N - 1) f) (fun f => hr f N) h1
theorem Mn_can {m : Nat} {f : Nat → Nat} (hm : m ≤ 8) (h : Mn N v w m f) : can N v (2 ^ N - 1) f :=
  As_can hm h.1 fun f' hf' => by rw [msk_full, msk_full]; exact h.2 f' hf'
theorem pl_split {f fs : Nat → Nat} {i e x A : Nat} (hi : i < N) (hb : ∀ j, j < N → A.testBit j = decide (i < j)) (h1 : ∀ j, j < i → f j = fs j) (h2 : f i = e) :
    sumN (fun j => if (2 ^ N - 1).testBit j = true ∧ f j = x then v j else 0) N = pl v fs i x + (if x = e then v i else 0) + sumN (fun j => if A.testBit j = true ∧ f j = x then v j else 0) N := by
  have a1 := sumN_cut (fun j => if fs j = x then v j else 0) (i := i) N (by omega)
  have a2 := sumN_one (fun j => if x = e then v j else 0) i N
  rw [if_pos hi] at a2
  have a2' : sumN (fun j => if j = i then (fun j => if x = e then v j else 0) j else 0) N = if x = e then v i else 0 := a2
  show _ = sumN (fun j => if fs j = x then v j else 0) i + _ + _
  rw [← a1, ← a2', ← sumN_add, ← sumN_add]
  refine sumN_cg N fun j hj => ?_
  show (if (2 ^ N - 1).testBit j = true ∧ f j = x then v j else 0) = (if j < i then (if fs j = x then v j else 0) else 0) + (if j = i then (if x = e then v j else 0) else 0) + (if A.testBit j = true ∧ f j = x then v j else 0)
  rw [tb_full, decide_eq_true hj, hb j hj]
  rcases Nat.lt_trichotomy j i with c | c | c
  · rw [if_pos c, if_neg (by omega : ¬ j = i), h1 j c, decide_eq_false (by omega : ¬ i < j), if_neg (c := (false = true ∧ fs j = x)) (fun z => absurd z.1 (by decide))]
    by_cases q : fs j = x
    · rw [if_pos ⟨rfl, q⟩, if_pos q]; omega
    · rw [if_neg (fun z => q z.2), if_neg q]; omega
  · subst c
    rw [if_neg (by omega : ¬ j < j), if_pos rfl, h2, decide_eq_false (by omega : ¬ j < j), if_neg (c := (false = true ∧ e = x)) (fun z => absurd z.1 (by decide))]
    by_cases q : e = x
    · rw [if_pos ⟨rfl, q⟩, if_pos q.symm]; omega
    · rw [if_neg (fun z => q z.2), if_neg (fun z => q z.symm)]; omega
  · rw [if_neg (by omega : ¬ j < i), if_neg (by omega : ¬ j = i), decide_eq_true c]
    omega
theorem greedy {m i e A : Nat} {fs : Nat → Nat} {w' : Nat → Int} (hM : Mn N v w m fs) (hi : i < N) (he : e < m) (hm : m ≤ 8) (hA : A < 2 ^ N) (hb : ∀ j, j < N → A.testBit j = decide (i < j)) (hw : ∀ x, x < m → w' x = w x - pl v fs i x - (if x = e then v i else 0)) :
    0 < Rr N v w' m m A ↔ ∃ f, As N v w m 0 (2 ^ N - 1) f ∧ (∀ j, j < i → f j = fs j) ∧ f i = e := by
  rw [Rr_iff (e := 0) hm (by omega) hA]
  constructor
  · rintro ⟨f, hf1, hf2⟩
    have h1 : ∀ j, j < i → (fun j => if j < i then fs j else if j = i then e else f j) j = fs j := fun j hj => if_pos hj
    have h2 : (fun j => if j < i then fs j else if j = i then e else f j) i = e := by
      show (if i < i then fs i else if i = i then e else f i) = e
      rw [if_neg (by omega), if_pos rfl]
    refine ⟨fun j => if j < i then fs j else if j = i then e else f j, ⟨fun j hj hbj => ?_, fun x _ hx => ?_⟩, h1, h2⟩
    · refine ⟨Nat.zero_le _, ?_⟩
      show (if j < i then fs j else if j = i then e else f j) < m
      split
      · exact (hM.1.1 j hj hbj).2
      · split
        · exact he
        · exact (hf1 j hj (by rw [hb j hj]; exact decide_eq_true (by omega))).2
    · rw [pl_split hi hb h1 h2]
      have e1 := hf2 x (Nat.zero_le x) hx
      rw [hw x hx] at e1
      rw [sumN_cg N (f := fun j => if A.testBit j = true ∧ (fun j => if j < i then fs j else if j = i then e else f j) j = x then v j else 0) (h := fun j => if A.testBit j = true ∧ f j = x then v j else 0) (fun j hj => by
        show (if A.testBit j = true ∧ (if j < i then fs j else if j = i then e else f j) = x then v j else 0) = _
        by_cases c : i < j
        · rw [if_neg (by omega : ¬ j < i), if_neg (by omega : ¬ j = i)]
        · rw [hb j hj, decide_eq_false c, if_neg (fun z => absurd z.1 (by decide)), if_neg (fun z => absurd z.1 (by decide))])]
      omega
  · rintro ⟨f, hf, h1, h2⟩
    refine ⟨f, fun j hj _ => ⟨Nat.zero_le _, (hf.1 j hj (by rw [tb_full]; exact decide_eq_true hj)).2⟩, fun x _ hx => ?_⟩
    have e1 := hf.2 x (Nat.zero_le x) hx
    rw [pl_split (x := x) hi hb h1 h2] at e1
    rw [hw x hx]
    omega
/-- there is room on the place where the first way lays the number -/
theorem greedy_room {m i A : Nat} {fs : Nat → Nat} (hM : Mn N v w m fs) (hi : i < N) (hv : ∀ j, j < N → 0 ≤ v j) (hb : ∀ j, j < N → A.testBit j = decide (i < j)) : fs i < m ∧ v i ≤ w (fs i) - pl v fs i (fs i) := by
  have h0 := (hM.1.1 i hi (by rw [tb_full]; exact decide_eq_true hi)).2
  refine ⟨h0, ?_⟩
  have e1 := hM.1.2 (fs i) (Nat.zero_le _) h0
  rw [pl_split (fs := fs) (x := fs i) hi hb (fun _ _ => rfl) rfl, if_pos rfl] at e1
  have := sumN_nn (f := fun j => if A.testBit j = true ∧ fs j = fs i then v j else 0) N (fun j hj => by
    show 0 ≤ if A.testBit j = true ∧ fs j = fs i then v j else 0
    split
    · exact hv j hj
    · exact Int.le_refl 0)
  omega
theorem greedy_least {m i e : Nat} {fs : Nat → Nat} (hM : Mn N v w m fs) (hi : i < N) (hm : m ≤ 8) (he : e < fs i) : ¬ ∃ f, As N v w m 0 (2 ^ N - 1) f ∧ (∀ j, j < i → f j = fs j) ∧ f i = e := by
  rintro ⟨f, hf, h1, h2⟩
  have h3 := hM.2 f hf
  have h4 := hr_lt (f := f) (f' := fs) (i := i) h1 (by omega) N (fun j hj => by
    have := (hf.1 j hj (by rw [tb_full]; exact decide_eq_true hj)).2; omega) hi
  omega
theorem hr_dig {f : Nat → Nat} {k : Nat} : ∀ n, (∀ j, j < n → f j < 8) → k < n → hr f n / 8 ^ (n - 1 - k) % 8 = f k
  | 0, _, h => by omega
  | n + 1, hb, h => by
    show (8 * hr f n + f n) / 8 ^ (n + 1 - 1 - k) % 8 = f k
    have hn := hb n (by omega)
    by_cases c : k = n
    · subst c
      rw [show k + 1 - 1 - k = 0 by omega, Nat.pow_zero, Nat.div_one]
      omega
    · rw [show n + 1 - 1 - k = (n - 1 - k) + 1 by omega, Nat.pow_succ, Nat.mul_comm (8 ^ (n - 1 - k)) 8, ← Nat.div_div_eq_div_mul, show (8 * hr f n + f n) / 8 = hr f n by omega]
      exact hr_dig n (fun j hj => hb j (by omega)) (by omega)
theorem hr_b {f : Nat → Nat} : ∀ n, (∀ j, j < n → f j < 8) → hr f n < 8 ^ n
  | 0, _ => by show 0 < 1; omega
  | n + 1, h => by
    have h1 := hr_b n (fun j hj => h j (by omega))
    have h2 := h n (by omega)
    show 8 * hr f n + f n < 8 ^ n * 8
    omega
theorem hr_sum {f : Nat → Nat} : ∀ n, sumN (fun i => (f i : Int) * 8 ^ (n - 1 - i)) n = (hr f n : Int)
  | 0 => rfl
  | n + 1 => by
    show sumN (fun i => (f i : Int) * 8 ^ (n + 1 - 1 - i)) n + (f n : Int) * 8 ^ (n + 1 - 1 - n) = ((8 * hr f n + f n : Nat) : Int)
    rw [sumN_cg n (h := fun i => 8 * ((f i : Int) * 8 ^ (n - 1 - i))) (fun i hi => by
      rw [show n + 1 - 1 - i = (n - 1 - i) + 1 by omega, Int.pow_succ, ← Int.mul_assoc, Int.mul_comm]), sumN_mul, hr_sum n, show n + 1 - 1 - n = 0 by omega, Int.pow_zero]
    omega
theorem roI_full {f : Nat → Nat} : roI N (2 ^ N - 1) f = (hr f N : Int) := by
  rw [← hr_sum N]
  exact sumN_cg N fun i hi => by rw [tb_full]; exact if_pos (decide_eq_true hi)
theorem As_sum {p T : Nat} {f : Nat → Nat} (h : As N v w p 0 T f) : sm N v T = sumN w p := by
  have e1 : sumN w p = sumN (fun e => sumN (fun i => if T.testBit i = true ∧ f i = e then v i else 0) N) p := sumN_cg p fun e he => (h.2 e (Nat.zero_le e) he).symm
  rw [e1, sumN_comm]
  refine sumN_cg N fun i hi => ?_
  show (if T.testBit i = true then v i else 0) = sumN (fun e => if T.testBit i = true ∧ f i = e then v i else 0) p
  by_cases c : T.testBit i = true
  · have := sumN_one (fun _ => v i) (f i) p
    rw [if_pos (h.1 i hi c).2] at this
    rw [if_pos c]
    refine this.symm.trans (sumN_cg p fun e _ => ?_)
    by_cases q : e = f i
    · rw [if_pos q, if_pos ⟨c, q.symm⟩]
    · rw [if_neg q, if_neg (fun z => q z.2.symm)]
  · rw [if_neg c, sumN_cg p (h := fun _ => 0) (fun e _ => if_neg (fun z => c z.1)), sumN_zero]
/-- a chain's last step back -/
theorem Gg_step {p U : Nat} {f : Nat → Nat} (hU : U < 2 ^ N) (h : Gg N v w (p + 1) U f) : ∃ T, T < 2 ^ N ∧ sb T U ∧ Gg N v w p T f ∧ roI N U f = roI N T f + p * (dg N U - dg N T) := by
  obtain ⟨⟨h1, h2⟩, h3, h4⟩ := h
  have ht := mkS_lt (fun i => U.testBit i && decide (f i < p)) N
  have tb : ∀ i, i < N → (mkS (fun i => U.testBit i && decide (f i < p)) N).testBit i = (U.testBit i && decide (f i < p)) := fun i hi => mkS_tb _ N i hi
  generalize mkS (fun i => U.testBit i && decide (f i < p)) N = T at ht tb
  have tt : ∀ i, i < N → (T.testBit i = true ↔ U.testBit i = true ∧ f i < p) := fun i hi => by
    rw [tb i hi, Bool.and_eq_true, decide_eq_true_iff]
  refine ⟨T, ht, fun i hi => ((tt i (tb_lt hi ht)).mp hi).1, ⟨⟨fun i hi hb => ⟨Nat.zero_le _, ((tt i hi).mp hb).2⟩, fun e _ he => ?_⟩, fun i j hij hj hv hb => ?_, fun i j hij hj hi' hj' hv => h4 i j hij hj ((tt i (by omega)).mp hi').1 ((tt j hj).mp hj').1 hv⟩, ?_⟩
  · rw [← h2 e (Nat.zero_le e) (by omega)]
    refine sumN_cg N fun i hi => ?_
    show (if T.testBit i = true ∧ f i = e then v i else 0) = if U.testBit i = true ∧ f i = e then v i else 0
    by_cases q : U.testBit i = true ∧ f i = e
    · rw [if_pos q, if_pos ⟨(tt i hi).mpr ⟨q.1, by omega⟩, q.2⟩]
    · rw [if_neg q, if_neg (fun z => q ⟨((tt i hi).mp z.1).1, z.2⟩)]
  · obtain ⟨q1, q2⟩ := (tt j hj).mp hb
    have q3 := h3 i j hij hj hv q1
    have := h4 i j hij hj q3 q1 hv
    exact (tt i (by omega)).mpr ⟨q3, by omega⟩
  · have e1 : (p : Int) * (dg N U - dg N T) = sumN (fun i => (p : Int) * ((if U.testBit i = true then 8 ^ (N - 1 - i) else 0) - (if T.testBit i = true then 8 ^ (N - 1 - i) else 0))) N := by
      rw [sumN_mul]
      congr 1
      have := sumN_add (fun i => (if U.testBit i = true then (8 : Int) ^ (N - 1 - i) else 0) - (if T.testBit i = true then 8 ^ (N - 1 - i) else 0)) (fun i => if T.testBit i = true then 8 ^ (N - 1 - i) else 0) N
      rw [sumN_cg N (h := fun i => if U.testBit i = true then (8 : Int) ^ (N - 1 - i) else 0) (fun i _ => by omega)] at this
      show sumN (fun i => if U.testBit i = true then (8 : Int) ^ (N - 1 - i) else 0) N - sumN (fun i => if T.testBit i = true then (8 : Int) ^ (N - 1 - i) else 0) N = _
      omega
    rw [e1]
    show sumN _ N = sumN _ N + sumN _ N
    rw [← sumN_add]
    refine sumN_cg N fun i hi => ?_
    show (if U.testBit i = true then (f i : Int) * 8 ^ (N - 1 - i) else 0) = (if T.testBit i = true then (f i : Int) * 8 ^ (N - 1 - i) else 0) + (p : Int) * ((if U.testBit i = true then 8 ^ (N - 1 - i) else 0) - (if T.testBit i = true then 8 ^ (N - 1 - i) else 0))
    by_cases q : U.testBit i = true
    · rw [if_pos q, if_pos q]
      by_cases r : f i < p
      · have z := (tt i hi).mpr ⟨q, r⟩
        rw [if_pos z, if_pos z, Int.sub_self, Int.mul_zero, Int.add_zero]
      · have z : ¬ T.testBit i = true := fun z => r ((tt i hi).mp z).2
        have z' := (h1 i hi q).2
        rw [if_neg z, if_neg z, Int.sub_zero, Int.zero_add, show f i = p by omega]
    · have z : ¬ T.testBit i = true := fun z => q ((tt i hi).mp z).1
      rw [if_neg q, if_neg q, if_neg z, if_neg z, Int.sub_zero, Int.mul_zero, Int.add_zero]
/-- a chain goes one place on -/
theorem Gg_back {p T U : Nat} {f0 : Nat → Nat} (hT : T < 2 ^ N) (hs : sb T U) (hi : ino N v U) (hm : sm N v U = sumN w (p + 1)) (h : Gg N v w p T f0) : ∃ f, Gg N v w (p + 1) U f ∧ roI N U f = roI N T f0 + p * (dg N U - dg N T) := by
  obtain ⟨hA, h3, h4⟩ := h
  have hsT := As_sum hA
  obtain ⟨h1, h2⟩ := hA
  refine ⟨fun i => if T.testBit i = true then f0 i else p, ⟨⟨fun i hi' hb => ⟨Nat.zero_le _, ?_⟩, fun e _ he => ?_⟩, hi, fun i j hij hj hi' hj' hv => ?_⟩, ?_⟩
  · show (if T.testBit i = true then f0 i else p) < p + 1
    split
    · next q => have := (h1 i hi' q).2; omega
    · omega
  · by_cases c : e = p
    · subst c
      have hx := sm_x (N := N) (v := v) hs
      rw [hm, hsT] at hx
      have hw : sumN w (e + 1) = sumN w e + w e := rfl
      have : sm N v (T ^^^ U) = w e := by omega
      rw [← this]
      refine sumN_cg N fun i hi' => ?_
      show (if U.testBit i = true ∧ (if T.testBit i = true then f0 i else e) = e then v i else 0) = if (T ^^^ U).testBit i = true then v i else 0
      rw [Nat.testBit_xor]
      by_cases q : T.testBit i = true
      · rw [if_pos q, q, hs i q]
        have := (h1 i hi' q).2
        rw [if_neg (fun z => by omega), if_neg (by decide)]
      · rw [if_neg q]
        have q' : T.testBit i = false := by revert q; cases T.testBit i <;> decide
        rw [q', Bool.false_xor]
        by_cases r : U.testBit i = true
        · rw [if_pos ⟨r, rfl⟩, if_pos r]
        · rw [if_neg (fun z => r z.1), if_neg r]
    · rw [← h2 e (Nat.zero_le e) (by omega)]
      refine sumN_cg N fun i hi' => ?_
      show (if U.testBit i = true ∧ (if T.testBit i = true then f0 i else p) = e then v i else 0) = if T.testBit i = true ∧ f0 i = e then v i else 0
      by_cases q : T.testBit i = true
      · rw [if_pos q, hs i q, q]
      · rw [if_neg q, if_neg (fun z => by omega), if_neg (fun z => q z.1)]
  · show (if T.testBit i = true then f0 i else p) ≤ if T.testBit j = true then f0 j else p
    by_cases q : T.testBit j = true
    · have q' := h3 i j hij hj hv q
      rw [if_pos q, if_pos q']
      exact h4 i j hij hj q' q hv
    · rw [if_neg q]
      split
      · next r => have := (h1 i (by omega) r).2; omega
      · omega
  · have e1 : (p : Int) * (dg N U - dg N T) = sumN (fun i => (p : Int) * ((if U.testBit i = true then 8 ^ (N - 1 - i) else 0) - (if T.testBit i = true then 8 ^ (N - 1 - i) else 0))) N := by
      rw [sumN_mul]
      congr 1
      have := sumN_add (fun i => (if U.testBit i = true then (8 : Int) ^ (N - 1 - i) else 0) - (if T.testBit i = true then 8 ^ (N - 1 - i) else 0)) (fun i => if T.testBit i = true then 8 ^ (N - 1 - i) else 0) N
      rw [sumN_cg N (h := fun i => if U.testBit i = true then (8 : Int) ^ (N - 1 - i) else 0) (fun i _ => by omega)] at this
      show sumN (fun i => if U.testBit i = true then (8 : Int) ^ (N - 1 - i) else 0) N - sumN (fun i => if T.testBit i = true then (8 : Int) ^ (N - 1 - i) else 0) N = _
      omega
    rw [e1]
    show sumN _ N = sumN _ N + sumN _ N
    rw [← sumN_add]
    refine sumN_cg N fun i hi' => ?_
    show (if U.testBit i = true then ((if T.testBit i = true then f0 i else p : Nat) : Int) * 8 ^ (N - 1 - i) else 0) = (if T.testBit i = true then (f0 i : Int) * 8 ^ (N - 1 - i) else 0) + (p : Int) * ((if U.testBit i = true then 8 ^ (N - 1 - i) else 0) - (if T.testBit i = true then 8 ^ (N - 1 - i) else 0))
    by_cases q : T.testBit i = true
    · rw [if_pos q, if_pos q, if_pos q, if_pos (hs i q), if_pos (hs i q), Int.sub_self, Int.mul_zero, Int.add_zero]
    · rw [if_neg q, if_neg q, if_neg q, Int.sub_zero, Int.zero_add]
      by_cases r : U.testBit i = true
      · rw [if_pos r, if_pos r]
      · rw [if_neg r, if_neg r, Int.mul_zero]
theorem Cc_iff : ∀ p T, T < 2 ^ N → (0 < Cc N v w p T ↔ ∃ f, Gg N v w p T f)
  | 0, T, hT => by
    constructor
    · intro h
      have := (iv_pos (h : 0 < iv (T = 0) 1)).1
      subst this
      exact ⟨fun _ => 0, ⟨fun i _ hb => by rw [Nat.zero_testBit] at hb; exact absurd hb (by decide), fun e _ he => by omega⟩, ino_0, fun i j _ _ hb => by rw [Nat.zero_testBit] at hb; exact absurd hb (by decide)⟩
    · rintro ⟨f, ⟨h1, _⟩, _⟩
      show 0 < iv (T = 0) 1
      rw [iv_t (ns_eq hT (p2_pos N) fun i hi => by
        rw [Nat.zero_testBit]
        cases c : T.testBit i
        · rfl
        · have := h1 i hi c; omega)]
      decide
  | p + 1, T, hT => by
    constructor
    · intro h
      obtain ⟨⟨hi, hm⟩, hp⟩ := iv_pos (h : 0 < iv (ino N v T ∧ sm N v T = sumN w (p + 1)) (sumN (fun f => iv (sb f T) (Cc N v w p f)) (2 ^ N)))
      obtain ⟨T', hT', hq⟩ := sumN_ex (2 ^ N) (fun f _ => iv_nn (Cc_nn p f)) hp
      obtain ⟨hs, hc⟩ := iv_pos hq
      obtain ⟨f0, hf0⟩ := (Cc_iff p T' hT').mp hc
      obtain ⟨f, hf, _⟩ := Gg_back hT' hs hi hm hf0
      exact ⟨f, hf⟩
    · rintro ⟨f, hf⟩
      obtain ⟨T', hT', hs, hg, _⟩ := Gg_step hT hf
      show 0 < iv (ino N v T ∧ sm N v T = sumN w (p + 1)) (sumN (fun f => iv (sb f T) (Cc N v w p f)) (2 ^ N))
      rw [iv_t ⟨hf.2.1, As_sum hf.1⟩]
      refine sumN_pos (f := fun f => iv (sb f T) (Cc N v w p f)) (fun f _ => iv_nn (Cc_nn p f)) hT' ?_
      show 0 < iv (sb T' T) (Cc N v w p T')
      rw [iv_t hs]
      exact (Cc_iff p T' hT').mpr ⟨f, hg⟩
/-- the least row of all chains is the first way -/
theorem Fl_first {m : Nat} {f : Nat → Nat} {x : Int} (hm : m ≤ 8) (hM : Mn N v w m f) (h : Fl N v w m (2 ^ N - 1) x) : x = (hr f N : Int) := by
  have h1 : Gg N v w m (2 ^ N - 1) f := ⟨hM.1, fun i j _ hj _ _ => by rw [tb_full]; exact decide_eq_true (by omega), Mn_can hm hM⟩
  have h2 := h.2 f h1
  rw [roI_full] at h2
  obtain ⟨f', hf', e⟩ := h.1
  rw [roI_full] at e
  have h3 := hM.2 f' hf'.1
  omega
end Greedy
