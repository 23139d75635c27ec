/-! the sum over all lines -/
def rs_ (f : Nat → Rat) : Nat → Rat
  | 0 => 0
  | n + 1 => rs_ f n + f n
theorem rs_cong {f g : Nat → Rat} : ∀ {n : Nat}, (∀ j, j < n → f j = g j) → rs_ f n = rs_ g n
  | 0, _ => rfl
  | n + 1, h => by unfold rs_; rw [rs_cong (n := n) fun j hj => h j (by omega), h n (by omega)]
theorem rs_add {f g : Nat → Rat} : ∀ {n : Nat}, rs_ (fun j => f j + g j) n = rs_ f n + rs_ g n
  | 0 => by unfold rs_; grind
  | n + 1 => by unfold rs_; rw [rs_add]; grind
theorem rs_mul {f : Nat → Rat} {c : Rat} : ∀ {n : Nat}, rs_ (fun j => c * f j) n = c * rs_ f n
  | 0 => by unfold rs_; grind
  | n + 1 => by unfold rs_; rw [rs_mul]; grind
theorem rs_0 : ∀ {n : Nat}, rs_ (fun _ => 0) n = 0
  | 0 => rfl
  | n + 1 => by unfold rs_; rw [rs_0]; grind
theorem rs_sw2 {f : Nat → Nat → Rat} {m : Nat} : ∀ {n : Nat}, rs_ (fun i => rs_ (fun q => f i q) m) n = rs_ (fun q => rs_ (fun i => f i q) n) m
  | 0 => by
    show (0 : Rat) = rs_ (fun q => 0) m
    exact rs_0.symm
  | n + 1 => by
    show rs_ (fun i => rs_ (fun q => f i q) m) n + rs_ (fun q => f n q) m = rs_ (fun q => rs_ (fun i => f i q) n + f n q) m
    rw [rs_add, rs_sw2]
theorem rs_le {f : Nat → Rat} : ∀ {n : Nat}, (∀ j, j < n → f j ≤ 0) → rs_ f n ≤ 0
  | 0, _ => by unfold rs_; grind
  | n + 1, h => by
    have := rs_le (n := n) fun j hj => h j (by omega)
    have := h n (by omega)
    unfold rs_; grind
theorem rs_lt {f : Nat → Rat} {k : Nat} : ∀ {n : Nat}, (∀ j, j < n → f j ≤ 0) → k < n → f k < 0 → rs_ f n < 0
  | 0, _, h, _ => by omega
  | n + 1, h, hk, h2 => by
    have h3 := h n (by omega)
    unfold rs_
    by_cases e : k = n
    · subst e
      have := rs_le (n := k) fun j hj => h j (by omega)
      grind
    · have := rs_lt (n := n) (fun j hj => h j (by omega)) (show k < n by omega) h2
      grind
theorem rs_shift {f : Nat → Rat} : ∀ {n : Nat}, rs_ (fun i => f (i + 1)) n + f 0 = rs_ f (n + 1)
  | 0 => by unfold rs_ rs_; grind
  | n + 1 => by
    have := rs_shift (f := f) (n := n)
    show rs_ (fun i => f (i + 1)) n + f (n + 1) + f 0 = rs_ f (n + 1) + f (n + 1)
    grind
theorem rs_nx {f : Nat → Rat} {n : Nat} (hn : 1 ≤ n) : rs_ (fun i => f (nx_ n i)) n = rs_ f n := by
  obtain ⟨m, rfl⟩ : ∃ m, n = m + 1 := ⟨n - 1, by omega⟩
  rw [← rs_shift (f := f)]
  show rs_ (fun i => f (nx_ (m + 1) i)) m + f (nx_ (m + 1) m) = _
  rw [show nx_ (m + 1) m = 0 by unfold nx_; rw [if_neg (by omega)]]
  rw [rs_cong (n := m) (g := fun i => f (i + 1)) fun j hj => by unfold nx_; rw [if_pos (by omega)]]
/-- the heights of a line over the odd places between a and b -/
theorem ln_sum {p q : Rat} {L0 a b : Int} (h0 : L0 % 2 = 0) (ha : a % 2 = 0) (hb : b % 2 = 0) (hab : a ≤ b) (hl : L0 ≤ a) : ∀ m : Nat, rs_ (fun k => if a < L0 + 1 + 2 * (k : Int) ∧ L0 + 1 + 2 * (k : Int) < b then p + q * ((L0 + 1 + 2 * (k : Int) : Int) : Rat) else 0) m = if L0 + 2 * (m : Int) ≤ a then 0 else if L0 + 2 * (m : Int) ≤ b then (((L0 + 2 * (m : Int) : Int) : Rat) - (a : Rat)) / 2 * (p + q * (((a : Rat) + ((L0 + 2 * (m : Int) : Int) : Rat)) / 2)) else ((b : Rat) - (a : Rat)) / 2 * (p + q * (((a : Rat) + (b : Rat)) / 2))
  | 0 => by
    rw [if_pos (by omega)]; rfl
  | m + 1 => by
    show rs_ _ m + _ = _
    rw [ln_sum h0 ha hb hab hl m]
    show _ + (if a < L0 + 1 + 2 * (m : Int) ∧ L0 + 1 + 2 * (m : Int) < b then p + q * ((L0 + 1 + 2 * (m : Int) : Int) : Rat) else 0) = _
    have e1 : ((L0 + 1 + 2 * (m : Int) : Int) : Rat) = ((L0 + 2 * (m : Int) : Int) : Rat) + 1 := by
      rw [show L0 + 1 + 2 * (m : Int) = (L0 + 2 * (m : Int)) + 1 by omega, Rat.intCast_add]; rfl
    have e2 : ((L0 + 2 * ((m + 1 : Nat) : Int) : Int) : Rat) = ((L0 + 2 * (m : Int) : Int) : Rat) + 2 := by
      rw [show L0 + 2 * ((m + 1 : Nat) : Int) = (L0 + 2 * (m : Int)) + 2 by omega, Rat.intCast_add]; rfl
    rw [e1, e2]
    by_cases c1 : L0 + 2 * (m : Int) ≤ a
    · rw [if_pos c1]
      by_cases c2 : L0 + 2 * (m : Int) = a
      · rw [if_neg (show ¬ L0 + 2 * ((m + 1 : Nat) : Int) ≤ a by omega)]
        by_cases c3 : a = b
        · subst c3
          rw [if_neg (by omega), if_neg (by omega)]; grind
        · rw [if_pos (by omega), if_pos (by omega), ← c2]; grind
      · rw [if_neg (by omega), if_pos (by omega)]; grind
    · rw [if_neg c1, if_neg (show ¬ L0 + 2 * ((m + 1 : Nat) : Int) ≤ a by omega)]
      by_cases c2 : L0 + 2 * (m : Int) ≤ b
      · rw [if_pos c2]
        by_cases c3 : L0 + 2 * (m : Int) = b
        · rw [if_neg (by omega), if_neg (by omega), ← c3]; grind
        · rw [if_pos (by omega), if_pos (by omega)]; grind
      · rw [if_neg c2, if_neg (by omega), if_neg (by omega)]; grind
/-! the crossings of one line, from below -/
def ls_ (f : Nat → Rat) : List Nat → Rat
  | [] => 0
  | a :: l => f a + ls_ f l
theorem ls_perm {f : Nat → Rat} {l l' : List Nat} (h : l.Perm l') : ls_ f l = ls_ f l' := by
  induction h with
  | nil => rfl
  | cons a _ ih => unfold ls_; rw [ih]
  | swap a b l => unfold ls_ ls_; grind
  | trans _ _ h1 h2 => exact h1.trans h2
theorem ls_app {f : Nat → Rat} : ∀ {l l' : List Nat}, ls_ f (l ++ l') = ls_ f l + ls_ f l'
  | [], l' => by show _ = 0 + _; grind
  | a :: l, l' => by
    show f a + ls_ f (l ++ l') = (f a + ls_ f l) + ls_ f l'
    rw [ls_app]; grind
theorem rs_ls {p : Nat → Bool} {f : Nat → Rat} : ∀ {n : Nat}, rs_ (fun i => if p i = true then f i else 0) n = ls_ f ((List.range n).filter p)
  | 0 => rfl
  | n + 1 => by
    rw [List.range_succ, List.filter_append, ls_app, ← rs_ls]
    show rs_ _ n + (if p n = true then f n else 0) = _
    by_cases c : p n = true
    · rw [if_pos c, List.filter_cons_of_pos c]
      show _ = _ + (f n + 0)
      grind
    · rw [if_neg c, List.filter_cons_of_neg c]; rfl
theorem cn_list {p q : Nat → Bool} : ∀ {n : Nat}, cn (fun j => p j && q j) n = ((List.range n).filter p).countP q
  | 0 => rfl
  | n + 1 => by
    rw [List.range_succ, List.filter_append, List.countP_append, ← cn_list]
    show cn _ n + (if (p n && q n) = true then 1 else 0) = _
    by_cases c : p n = true
    · rw [List.filter_cons_of_pos c, c, Bool.true_and]
      simp [List.countP_cons]
    · have c' : p n = false := by simpa using c
      rw [List.filter_cons_of_neg c, c']; rfl
def altR (sg : Nat → Int) : Int → List Nat → Prop
  | _, [] => True
  | s, a :: l => sg a = s ∧ altR sg (-s) l
theorem alt_of {h : Nat → Rat} {sg : Nat → Int} : ∀ {L : List Nat} {s : Int}, L.Pairwise (fun i j => h i < h j) → (∀ e ∈ L, sg e = s * (if L.countP (fun j => decide (h j < h e)) % 2 = 0 then 1 else -1)) → altR sg s L
  | [], _, _, _ => trivial
  | a :: l, s, hp, hc => by
    rw [List.pairwise_cons] at hp
    have z : (a :: l).countP (fun j => decide (h j < h a)) = 0 := by
      rw [List.countP_eq_zero]
      intro x hx
      rw [decide_eq_true_iff]
      rcases List.mem_cons.mp hx with e | e
      · rw [e]; grind
      · have := hp.1 x e; grind
    refine ⟨?_, alt_of hp.2 fun e he => ?_⟩
    · have := hc a List.mem_cons_self
      rw [z] at this
      simpa using this
    · have := hc e (List.mem_cons_of_mem _ he)
      rw [List.countP_cons_of_pos (by rw [decide_eq_true_iff]; exact hp.1 e he)] at this
      rw [this]
      split <;> split <;> omega
theorem sq1 {s : Int} (hs : s = 1 ∨ s = -1) : (s : Rat) * (s : Rat) = 1 := by
  rw [← Rat.intCast_mul, show s * s = 1 by rcases hs with rfl | rfl <;> rfl]; rfl
theorem alt_sum {h : Nat → Rat} {sg : Nat → Int} {s : Int} (hs : s = 1 ∨ s = -1) : ∀ {L : List Nat}, L.Pairwise (fun i j => h i < h j) → altR sg s L → ls_ (fun i => (sg i : Rat)) L = 0 → (s : Rat) * ls_ (fun i => (sg i : Rat) * h i) L ≤ 0 ∧ (L ≠ [] → (s : Rat) * ls_ (fun i => (sg i : Rat) * h i) L < 0)
  | [], _, _, _ => ⟨by unfold ls_; grind, fun h => absurd rfl h⟩
  | [a], _, ha, hz => by
    exfalso
    have e : sg a = s := ha.1
    have hz' : (sg a : Rat) + 0 = 0 := hz
    rw [e] at hz'
    have ss := sq1 hs
    grind
  | a :: b :: l, hp, ha, hz => by
    obtain ⟨e1, e2, ha'⟩ := ha
    rw [List.pairwise_cons, List.pairwise_cons] at hp
    have hlt := hp.1 b List.mem_cons_self
    have hz' : (sg a : Rat) + ((sg b : Rat) + ls_ (fun i => (sg i : Rat)) l) = 0 := hz
    rw [Int.neg_neg] at ha'
    have cb : ((-s : Int) : Rat) = -(s : Rat) := Rat.intCast_neg s
    rw [e1, e2, cb] at hz'
    obtain ⟨i1, -⟩ := alt_sum hs hp.2.2 ha' (by grind)
    have ss := sq1 hs
    have e : ls_ (fun i => (sg i : Rat) * h i) (a :: b :: l) = (s : Rat) * h a + (-(s : Rat) * h b + ls_ (fun i => (sg i : Rat) * h i) l) := by
      show (sg a : Rat) * h a + ((sg b : Rat) * h b + _) = _
      rw [e1, e2, cb]
    have k : (s : Rat) * ls_ (fun i => (sg i : Rat) * h i) (a :: b :: l) = (h a - h b) + (s : Rat) * ls_ (fun i => (sg i : Rat) * h i) l := by
      rw [e]; grind
    rw [k]
    exact ⟨by grind, fun _ => by grind⟩
section Area2
variable {n : Nat} {U : Nat → Int} {v : Nat → Rat}
def lineS (n : Nat) (U : Nat → Int) (v : Nat → Rat) (c : Int) : Rat := rs_ (fun i => if crB n U i c = true then (sgn_ n U i : Rat) * hg n U v i (c : Rat) else 0) n
theorem sgn_or (i : Nat) : sgn_ n U i = 1 ∨ sgn_ n U i = -1 := by unfold sgn_; split <;> simp
theorem line_zero {c : Int} (hn : 2 ≤ n) (hE : EV n U) (hc : c % 2 = 1) : ls_ (fun i => (sgn_ n U i : Rat)) ((List.range n).filter (fun i => crB n U i c)) = 0 := by
  rw [← rs_ls]
  have e : rs_ (fun i => if crB n U i c = true then (sgn_ n U i : Rat) else 0) n = rs_ (fun i => (if c < U (nx_ n i) then (1 : Rat) else 0) + (-1) * (if c < U i then (1 : Rat) else 0)) n := rs_cong fun i hi => by
    have e1 := hE.1 i
    have e2 := hE.1 (nx_ n i)
    have p1 : ((1 : Int) : Rat) = 1 := rfl
    have p2 : ((-1 : Int) : Rat) = -1 := rfl
    have q1 : ∀ (h : ¬ ((U i < c ∧ c < U (nx_ n i)) ∨ (U (nx_ n i) < c ∧ c < U i))), crB n U i c = false := fun h => decide_eq_false h
    have q2 : ∀ (h : (U i < c ∧ c < U (nx_ n i)) ∨ (U (nx_ n i) < c ∧ c < U i)), crB n U i c = true := fun h => decide_eq_true h
    unfold sgn_
    by_cases a : c < U (nx_ n i)
    · by_cases b : c < U i
      · rw [q1 (by omega), if_neg (fun h => Bool.noConfusion h), if_pos a, if_pos b]; grind
      · rw [q2 (by omega), if_pos rfl, if_pos a, if_neg b, if_pos (by omega), p1]; grind
    · by_cases b : c < U i
      · rw [q2 (by omega), if_pos rfl, if_neg a, if_pos b, if_neg (by omega), p2]; grind
      · rw [q1 (by omega), if_neg (fun h => Bool.noConfusion h), if_neg a, if_neg b]; grind
  rw [e, rs_add, rs_mul, rs_nx (f := fun i => if c < U i then (1 : Rat) else 0) (by omega)]
  grind
theorem line_sum {c : Int} (hn : 2 ≤ n) (hE : EV n U) (hM : NM n U v) (hc : c % 2 = 1) : ((sgR n U v 0 (fl_ n U 0) : Int) : Rat) * lineS n U v c ≤ 0 ∧ ((∃ i, i < n ∧ cr n U i c) → ((sgR n U v 0 (fl_ n U 0) : Int) : Rat) * lineS n U v c < 0) := by
  have hsg : sgR n U v 0 (fl_ n U 0) = 1 ∨ sgR n U v 0 (fl_ n U 0) = -1 := by
    unfold sgR
    rcases sgn_or (n := n) (U := U) 0 with e | e <;> (rw [e]; split <;> simp)
  have hall := fun i (hi : i < n) (h : cr n U i c) => sig_all (v := v) hn hE hM hi hc h
  generalize sgR n U v 0 (fl_ n U 0) = s at hsg hall ⊢
  unfold lineS
  rw [rs_ls]
  have z := line_zero hn hE hc
  have mem : ∀ i, i ∈ (List.range n).filter (fun i => crB n U i c) ↔ i < n ∧ cr n U i c := fun i => by
    rw [List.mem_filter, List.mem_range, crB_iff]
  have bc : ∀ i, bl n U v i c = ((List.range n).filter (fun i => crB n U i c)).countP (fun j => decide (hg n U v j (c : Rat) < hg n U v i (c : Rat))) := fun i => cn_list (p := fun j => crB n U j c) (q := fun j => decide (hg n U v j (c : Rat) < hg n U v i (c : Rat)))
  have nd : ((List.range n).filter (fun i => crB n U i c)).Nodup := List.nodup_range.filter _
  generalize hL0 : (List.range n).filter (fun i => crB n U i c) = L0 at z mem bc nd ⊢
  have pm := List.mergeSort_perm L0 (fun i j => decide (hg n U v i (c : Rat) ≤ hg n U v j (c : Rat)))
  have so := List.pairwise_mergeSort (le := fun i j => decide (hg n U v i (c : Rat) ≤ hg n U v j (c : Rat))) (fun a b d h1 h2 => by rw [decide_eq_true_iff] at *; grind) (fun a b => by rw [Bool.or_eq_true, decide_eq_true_iff, decide_eq_true_iff]; grind) L0
  generalize L0.mergeSort (fun i j => decide (hg n U v i (c : Rat) ≤ hg n U v j (c : Rat))) = L at pm so
  have ndL : L.Nodup := pm.nodup_iff.mpr nd
  have st : L.Pairwise (fun i j => hg n U v i (c : Rat) < hg n U v j (c : Rat)) := by
    refine List.Pairwise.imp_of_mem (fun {i j} hi hj hij => ?_) (so.and ndL)
    have i1 := (mem i).mp (pm.mem_iff.mp hi)
    have j1 := (mem j).mp (pm.mem_iff.mp hj)
    have h1 : hg n U v i (c : Rat) ≤ hg n U v j (c : Rat) := by
      have := hij.1; rw [decide_eq_true_iff] at this; exact this
    have h2 : hg n U v i (c : Rat) ≠ hg n U v j (c : Rat) := fun e => by
      rcases hM i j i1.1 j1.1 hij.2 _ (cr_iR hE hc i1.2).1 (cr_iR hE hc j1.2).1 e with ⟨_, q⟩ | ⟨_, q⟩
      · have := Rat.intCast_inj.mp q
        have := hE.1 j
        omega
      · have := Rat.intCast_inj.mp q
        have := hE.1 i
        omega
    grind
  have al : altR (sgn_ n U) s L := by
    refine alt_of (h := fun i => hg n U v i (c : Rat)) st fun i hi => ?_
    have i1 := (mem i).mp (pm.mem_iff.mp hi)
    have := hall i i1.1 i1.2
    unfold sgR at this
    rw [bc i] at this
    rw [pm.countP_eq]
    rw [← this, Int.mul_assoc]
    split <;> simp
  have := alt_sum (h := fun i => hg n U v i (c : Rat)) hsg st al (by rw [ls_perm pm]; exact z)
  rw [ls_perm pm] at this
  refine ⟨this.1, fun ⟨i, hi, hci⟩ => this.2 fun e => ?_⟩
  have := pm.mem_iff.mpr ((mem i).mpr ⟨hi, hci⟩)
  rw [e] at this
  cases this
/-- a side's share of the area, out of its heights over the odd places -/
theorem side_sum {i m : Nat} {L0 : Int} (hn : 2 ≤ n) (hE : EV n U) (hi : i < n) (h0 : L0 % 2 = 0) (hl : ∀ k, k < n → L0 ≤ U k ∧ U k ≤ L0 + 2 * (m : Int)) : ((U i : Rat) - (U (nx_ n i) : Rat)) * (v i + v (nx_ n i)) = -4 * rs_ (fun k => if crB n U i (L0 + 1 + 2 * (k : Int)) = true then (sgn_ n U i : Rat) * hg n U v i ((L0 + 1 + 2 * (k : Int) : Int) : Rat) else 0) m := by
  have d := difR hn hE hi
  have dc := cast_ne d
  have e1 := hE.1 i
  have e2 := hE.1 (nx_ n i)
  have l1 := hl i hi
  have l2 := hl _ (nx_lt hi)
  have p1 : ((1 : Int) : Rat) = 1 := rfl
  have p2 : ((-1 : Int) : Rat) = -1 := rfl
  have aff : ∀ t, hg n U v i t = (v i - rb U v n i * (U i : Rat)) + rb U v n i * t := fun t => by unfold hg; grind
  have hb : v i + rb U v n i * ((U (nx_ n i) : Rat) - (U i : Rat)) = v (nx_ n i) := by unfold rb; grind
  generalize hq : rb U v n i = q at aff hb
  by_cases c : U i < U (nx_ n i)
  · have s := ln_sum (p := v i - q * (U i : Rat)) (q := q) (L0 := L0) (a := U i) (b := U (nx_ n i)) h0 e1 e2 (by omega) l1.1 m
    have r : rs_ (fun k => if crB n U i (L0 + 1 + 2 * (k : Int)) = true then (sgn_ n U i : Rat) * hg n U v i ((L0 + 1 + 2 * (k : Int) : Int) : Rat) else 0) m = rs_ (fun k => if U i < L0 + 1 + 2 * (k : Int) ∧ L0 + 1 + 2 * (k : Int) < U (nx_ n i) then (v i - q * (U i : Rat)) + q * ((L0 + 1 + 2 * (k : Int) : Int) : Rat) else 0) m := rs_cong fun k _ => by
      have sg : sgn_ n U i = 1 := if_pos c
      rw [sg, p1, aff]
      unfold crB
      by_cases w : U i < L0 + 1 + 2 * (k : Int) ∧ L0 + 1 + 2 * (k : Int) < U (nx_ n i)
      · rw [if_pos (decide_eq_true (Or.inl w)), if_pos w]; grind
      · rw [if_neg (by rw [decide_eq_true_iff]; omega), if_neg w]
    rw [r, s, if_neg (by omega)]
    by_cases w : L0 + 2 * (m : Int) ≤ U (nx_ n i)
    · have : L0 + 2 * (m : Int) = U (nx_ n i) := by omega
      rw [if_pos w, this]; grind
    · rw [if_neg w]; grind
  · have s := ln_sum (p := v i - q * (U i : Rat)) (q := q) (L0 := L0) (a := U (nx_ n i)) (b := U i) h0 e2 e1 (by omega) l2.1 m
    have r : rs_ (fun k => if crB n U i (L0 + 1 + 2 * (k : Int)) = true then (sgn_ n U i : Rat) * hg n U v i ((L0 + 1 + 2 * (k : Int) : Int) : Rat) else 0) m = rs_ (fun k => -1 * (if U (nx_ n i) < L0 + 1 + 2 * (k : Int) ∧ L0 + 1 + 2 * (k : Int) < U i then (v i - q * (U i : Rat)) + q * ((L0 + 1 + 2 * (k : Int) : Int) : Rat) else 0)) m := rs_cong fun k _ => by
      have sg : sgn_ n U i = -1 := if_neg c
      rw [sg, p2, aff]
      unfold crB
      by_cases w : U (nx_ n i) < L0 + 1 + 2 * (k : Int) ∧ L0 + 1 + 2 * (k : Int) < U i
      · rw [if_pos (decide_eq_true (Or.inr w)), if_pos w]
      · rw [if_neg (by rw [decide_eq_true_iff]; omega), if_neg w]; grind
    rw [r, rs_mul, s, if_neg (by omega)]
    by_cases w : L0 + 2 * (m : Int) ≤ U i
    · have : L0 + 2 * (m : Int) = U i := by omega
      rw [if_pos w, this]; grind
    · rw [if_neg w]; grind
theorem area_ne {m : Nat} {L0 : Int} (hn : 2 ≤ n) (hE : EV n U) (hM : NM n U v) (h0 : L0 % 2 = 0) (hl : ∀ k, k < n → L0 ≤ U k ∧ U k ≤ L0 + 2 * (m : Int)) : rs_ (fun i => ((U i : Rat) - (U (nx_ n i) : Rat)) * (v i + v (nx_ n i))) n ≠ 0 := by
  rw [rs_cong (fun i hi => side_sum (v := v) hn hE hi h0 hl), rs_mul, rs_sw2 (f := fun i k => if crB n U i (L0 + 1 + 2 * (k : Int)) = true then (sgn_ n U i : Rat) * hg n U v i ((L0 + 1 + 2 * (k : Int) : Int) : Rat) else 0)]
  have e : rs_ (fun q => rs_ (fun i => if crB n U i (L0 + 1 + 2 * (q : Int)) = true then (sgn_ n U i : Rat) * hg n U v i ((L0 + 1 + 2 * (q : Int) : Int) : Rat) else 0) n) m = rs_ (fun q => lineS n U v (L0 + 1 + 2 * (q : Int))) m := rfl
  rw [e]
  obtain ⟨f1, f2, -, -⟩ := fl_cr (i := 0) hn hE (by omega)
  have l1 := hl 0 (by omega)
  have l2 := hl _ (nx_lt (n := n) (i := 0) (by omega))
  have key : rs_ (fun q => ((sgR n U v 0 (fl_ n U 0) : Int) : Rat) * lineS n U v (L0 + 1 + 2 * (q : Int))) m < 0 := by
    refine rs_lt (k := ((fl_ n U 0 - 1 - L0) / 2).toNat) (fun q hq => (line_sum hn hE hM (by omega)).1) ?_ ((line_sum hn hE hM (by omega)).2 ⟨0, by omega, ?_⟩)
    · unfold cr at f1; omega
    · have : L0 + 1 + 2 * (((fl_ n U 0 - 1 - L0) / 2).toNat : Int) = fl_ n U 0 := by unfold cr at f1; omega
      rw [this]; exact f1
  rw [rs_mul] at key
  intro w
  have w0 : rs_ (fun q => lineS n U v (L0 + 1 + 2 * (q : Int))) m = 0 := by
    generalize rs_ (fun q => lineS n U v (L0 + 1 + 2 * (q : Int))) m = z at w
    grind
  rw [w0] at key
  grind
end Area2
