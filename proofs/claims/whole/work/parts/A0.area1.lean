/-! A RING THAT DOESN'T TOUCH ITSELF HAS AN AREA -/
def cn (p : Nat → Bool) : Nat → Nat
  | 0 => 0
  | n + 1 => cn p n + (if p n = true then 1 else 0)
theorem cn_cong {p q : Nat → Bool} : ∀ {n : Nat}, (∀ j, j < n → p j = q j) → cn p n = cn q n
  | 0, _ => rfl
  | n + 1, h => by
    unfold cn
    rw [cn_cong (n := n) fun j hj => h j (by omega), h n (by omega)]
theorem cn_rm {p : Nat → Bool} {a : Nat} : ∀ {n : Nat}, a < n → cn p n = cn (fun j => p j && decide (j ≠ a)) n + (if p a = true then 1 else 0)
  | 0, h => by omega
  | n + 1, h => by
    unfold cn
    by_cases e : n = a
    · subst e
      have : cn p n = cn (fun j => p j && decide (j ≠ n)) n := cn_cong fun j hj => by
        have : j ≠ n := by omega
        simp [this]
      rw [this]; simp
    · rw [cn_rm (p := p) (a := a) (n := n) (by omega)]
      simp [e]; omega
/-- all but two are alike: the two decide how the sums differ -/
theorem cn_par {p q : Nat → Bool} {a b : Nat} (hab : a ≠ b) {n : Nat} (ha : a < n) (hb : b < n) (h : ∀ j, j < n → j ≠ a → j ≠ b → p j = q j) : ∃ z : Nat, cn p n = z + (if p a = true then 1 else 0) + (if p b = true then 1 else 0) ∧ cn q n = z + (if q a = true then 1 else 0) + (if q b = true then 1 else 0) := by
  refine ⟨cn (fun j => (p j && decide (j ≠ b)) && decide (j ≠ a)) n, ?_, ?_⟩
  · rw [cn_rm (p := p) hb, cn_rm (p := fun j => p j && decide (j ≠ b)) ha]
    simp [hab]
  · rw [cn_rm (p := q) hb, cn_rm (p := fun j => q j && decide (j ≠ b)) ha]
    have : cn (fun j => (q j && decide (j ≠ b)) && decide (j ≠ a)) n = cn (fun j => (p j && decide (j ≠ b)) && decide (j ≠ a)) n := cn_cong fun j hj => by
      by_cases e1 : j = a
      · simp [e1]
      · by_cases e2 : j = b
        · simp [e2]
        · rw [h j hj e1 e2]
    rw [this]
    simp [hab]
theorem cn_one {p q : Nat → Bool} {a : Nat} : ∀ {n : Nat}, (∀ j, j < n → j ≠ a → p j = q j) → a < n → p a = true → q a = false → cn p n = cn q n + 1
  | 0, _, h, _, _ => by omega
  | n + 1, h, ha, h1, h2 => by
    unfold cn
    by_cases e : n = a
    · subst e
      rw [cn_cong (n := n) fun j hj => h j (by omega) (by omega), h1, h2]; rfl
    · rw [cn_one (n := n) (fun j hj => h j (by omega)) (by omega) h1 h2, h n (by omega) e]; omega
def pv_ (n k : Nat) : Nat := if k = 0 then n - 1 else k - 1
def nx_ (n i : Nat) : Nat := if i + 1 < n then i + 1 else 0
theorem nx_lt {n i : Nat} (h : i < n) : nx_ n i < n := by unfold nx_; split <;> omega
theorem pv_lt {n i : Nat} (h : i < n) : pv_ n i < n := by unfold pv_; split <;> omega
theorem nx_pv {n i : Nat} (h : i < n) : nx_ n (pv_ n i) = i := by
  unfold nx_ pv_
  by_cases c : i = 0
  · rw [if_pos c, if_neg (by omega)]; omega
  · rw [if_neg c, if_pos (by omega)]; omega
theorem nx_inj {n i j : Nat} (hi : i < n) (hj : j < n) (h : nx_ n i = nx_ n j) : i = j := by
  unfold nx_ at h
  split at h <;> split at h <;> omega
theorem nx_ne {n i : Nat} (hn : 2 ≤ n) (hi : i < n) : nx_ n i ≠ i := by
  unfold nx_; split <;> omega
section Area
variable {n : Nat} {U : Nat → Int} {v : Nat → Rat}
abbrev rb (U : Nat → Int) (v : Nat → Rat) (n i : Nat) : Rat := (v (nx_ n i) - v i) / ((U (nx_ n i) : Rat) - (U i : Rat))
def hg (n : Nat) (U : Nat → Int) (v : Nat → Rat) (i : Nat) (t : Rat) : Rat := v i + rb U v n i * (t - (U i : Rat))
def iR (n : Nat) (U : Nat → Int) (i : Nat) (t : Rat) : Prop := ((U i : Rat) ≤ t ∧ t ≤ (U (nx_ n i) : Rat)) ∨ ((U (nx_ n i) : Rat) ≤ t ∧ t ≤ (U i : Rat))
def NM (n : Nat) (U : Nat → Int) (v : Nat → Rat) : Prop := ∀ i j, i < n → j < n → i ≠ j → ∀ t, iR n U i t → iR n U j t → hg n U v i t = hg n U v j t → (j = nx_ n i ∧ t = (U j : Rat)) ∨ (i = nx_ n j ∧ t = (U i : Rat))
theorem hg_a {i : Nat} : hg n U v i (U i : Rat) = v i := by unfold hg; grind
theorem cast_ne {a b : Int} (h : a ≠ b) : (a : Rat) ≠ (b : Rat) := fun e => h (Rat.intCast_inj.mp e)
theorem hg_b {i : Nat} (h : U i ≠ U (nx_ n i)) : hg n U v i (U (nx_ n i) : Rat) = v (nx_ n i) := by
  have h' := cast_ne h
  unfold hg rb
  grind
/-- between two places where they don't meet, the lower stays the lower -/
theorem hg_keep {i j : Nat} {a b : Rat} (hab : a ≤ b) (h : ∀ t, a ≤ t → t ≤ b → hg n U v i t ≠ hg n U v j t) : hg n U v j a < hg n U v i a ↔ hg n U v j b < hg n U v i b := by
  have aff : ∀ t, hg n U v j t - hg n U v i t = (v j - rb U v n j * (U j : Rat) - v i + rb U v n i * (U i : Rat)) + (rb U v n j - rb U v n i) * t := fun t => by unfold hg; grind
  generalize (v j - rb U v n j * (U j : Rat) - v i + rb U v n i * (U i : Rat)) = p at aff
  generalize (rb U v n j - rb U v n i) = q at aff
  have aa := aff a
  have ab := aff b
  have na := h a (by grind) hab
  have nb := h b hab (by grind)
  have key : ∀ (x y : Rat), p + q * x < 0 → 0 < p + q * y → (∀ t, p + q * t = 0 → (x ≤ y → x ≤ t → ¬ t ≤ y) ∧ (y ≤ x → y ≤ t → ¬ t ≤ x)) → False := fun x y h1 h2 h3 => by
    have hq : q ≠ 0 := fun e => by rw [e] at h1 h2; grind
    have e0 : p + q * (-p / q) = 0 := by grind
    obtain ⟨z1, z2⟩ := h3 _ e0
    have hx : q * (x - (-p / q)) < 0 := by grind
    have hy : 0 < q * (y - (-p / q)) := by grind
    generalize -p / q = t at *
    rcases (show q < 0 ∨ 0 < q by grind) with hq | hq
    · have x1 : t ≤ x := by
        by_cases c : t ≤ x
        · exact c
        · have := Rat.mul_pos (a := -q) (b := t - x) (by grind) (by grind)
          grind
      have y1 : y ≤ t := by
        by_cases c : y ≤ t
        · exact c
        · have := Rat.mul_pos (a := -q) (b := y - t) (by grind) (by grind)
          grind
      exact z2 (by grind) y1 x1
    · have x1 : x ≤ t := by
        by_cases c : x ≤ t
        · exact c
        · have := Rat.mul_pos (a := q) (b := x - t) (by grind) (by grind)
          grind
      have y1 : t ≤ y := by
        by_cases c : t ≤ y
        · exact c
        · have := Rat.mul_pos (a := q) (b := t - y) (by grind) (by grind)
          grind
      exact z1 (by grind) x1 y1
  have nz : ∀ t, a ≤ t → t ≤ b → p + q * t ≠ 0 := fun t t1 t2 e => h t t1 t2 (by have := aff t; grind)
  constructor
  · intro c
    by_cases c2 : hg n U v j b < hg n U v i b
    · exact c2
    · exfalso
      refine key a b (by grind) (by grind) fun t ht => ⟨fun _ t1 t2 => nz t t1 t2 ht, fun e t1 t2 => nz t (by grind) (by grind) ht⟩
  · intro c
    by_cases c2 : hg n U v j a < hg n U v i a
    · exact c2
    · exfalso
      refine key b a (by grind) (by grind) fun t ht => ⟨fun e t1 t2 => nz t (by grind) (by grind) ht, fun _ t1 t2 => nz t t1 t2 ht⟩
def cr (n : Nat) (U : Nat → Int) (i : Nat) (c : Int) : Prop := (U i < c ∧ c < U (nx_ n i)) ∨ (U (nx_ n i) < c ∧ c < U i)
def crB (n : Nat) (U : Nat → Int) (i : Nat) (c : Int) : Bool := decide ((U i < c ∧ c < U (nx_ n i)) ∨ (U (nx_ n i) < c ∧ c < U i))
theorem crB_iff {i : Nat} {c : Int} : crB n U i c = true ↔ cr n U i c := by unfold crB cr; exact decide_eq_true_iff
def bel (n : Nat) (U : Nat → Int) (v : Nat → Rat) (i : Nat) (c : Int) (j : Nat) : Bool := crB n U j c && decide (hg n U v j (c : Rat) < hg n U v i (c : Rat))
def bl (n : Nat) (U : Nat → Int) (v : Nat → Rat) (i : Nat) (c : Int) : Nat := cn (bel n U v i c) n
def sgn_ (n : Nat) (U : Nat → Int) (i : Nat) : Int := if U i < U (nx_ n i) then 1 else -1
def sgR (n : Nat) (U : Nat → Int) (v : Nat → Rat) (i : Nat) (c : Int) : Int := sgn_ n U i * (if bl n U v i c % 2 = 0 then 1 else -1)
/-- even places, all different -/
def EV (n : Nat) (U : Nat → Int) : Prop := (∀ k, U k % 2 = 0) ∧ ∀ i j, i < n → j < n → U i = U j → i = j
theorem cr_iR {i : Nat} {c : Int} (hE : EV n U) (hc : c % 2 = 1) (h : cr n U i c) : iR n U i (c : Rat) ∧ iR n U i ((c + 1 : Int) : Rat) ∧ iR n U i ((c - 1 : Int) : Rat) := by
  have e1 := hE.1 i
  have e2 := hE.1 (nx_ n i)
  have le : ∀ {a b : Int}, a ≤ b → (a : Rat) ≤ (b : Rat) := fun h => Rat.intCast_le_intCast.mpr h
  rcases h with ⟨h1, h2⟩ | ⟨h1, h2⟩
  · exact ⟨Or.inl ⟨le (by omega), le (by omega)⟩, Or.inl ⟨le (by omega), le (by omega)⟩, Or.inl ⟨le (by omega), le (by omega)⟩⟩
  · exact ⟨Or.inr ⟨le (by omega), le (by omega)⟩, Or.inr ⟨le (by omega), le (by omega)⟩, Or.inr ⟨le (by omega), le (by omega)⟩⟩
theorem iR_mid {i : Nat} {a b t : Rat} (ha : iR n U i a) (hb : iR n U i b) (h1 : a ≤ t) (h2 : t ≤ b) : iR n U i t := by
  unfold iR at *; grind
/-- where two sides span a strip beside an even place z, and have no corner in common in it, the lower at the strip's edge is the lower at z -/
theorem keep_at {i j : Nat} {c z : Int} (hE : EV n U) (hM : NM n U v) (hi : i < n) (hj : j < n) (hij : i ≠ j) (hc : c % 2 = 1) (hz : z = c + 1 ∨ z = c - 1) (ci : cr n U i c) (cj : cr n U j c) (ne : ¬ (j = nx_ n i ∧ U j = z) ∧ ¬ (i = nx_ n j ∧ U i = z)) : hg n U v j (c : Rat) < hg n U v i (c : Rat) ↔ hg n U v j (z : Rat) < hg n U v i (z : Rat) := by
  obtain ⟨i1, i2, i3⟩ := cr_iR hE hc ci
  obtain ⟨j1, j2, j3⟩ := cr_iR hE hc cj
  have lt : ∀ {a b : Int}, (a : Rat) < (b : Rat) → a < b := fun h => Rat.intCast_lt_intCast.mp h
  have le : ∀ {a b : Int}, (a : Rat) ≤ (b : Rat) → a ≤ b := fun h => Rat.intCast_le_intCast.mp h
  have ei := hE.1 i
  have ej := hE.1 j
  have cc : (c : Rat) ≤ ((c + 1 : Int) : Rat) := Rat.intCast_le_intCast.mpr (by omega)
  have cd : ((c - 1 : Int) : Rat) ≤ (c : Rat) := Rat.intCast_le_intCast.mpr (by omega)
  have no : ∀ t : Rat, iR n U i t → iR n U j t → (∀ w : Int, t = (w : Rat) → w % 2 = 0 → w = z) → hg n U v i t ≠ hg n U v j t := fun t t1 t2 tz e => by
    rcases hM i j hi hj hij t t1 t2 e with ⟨h1, h2⟩ | ⟨h1, h2⟩
    · exact ne.1 ⟨h1, tz _ h2 ej⟩
    · exact ne.2 ⟨h1, tz _ h2 ei⟩
  rcases hz with rfl | rfl
  · refine hg_keep cc fun t t1 t2 => no t (iR_mid i1 i2 t1 t2) (iR_mid j1 j2 t1 t2) fun w hw ew => ?_
    rw [hw] at t1 t2
    have := le t1
    have := le t2
    omega
  · refine (hg_keep cd fun t t1 t2 => no t (iR_mid i3 i1 t1 t2) (iR_mid j3 j1 t1 t2) fun w hw ew => ?_).symm
    rw [hw] at t1 t2
    have := le t1
    have := le t2
    omega
/-- how many sides (but those that e names) pass below y at z, seen from c -/
def sd_ (n : Nat) (U : Nat → Int) (v : Nat → Rat) (e : Nat → Bool) (z : Int) (y : Rat) (c : Int) (j : Nat) : Bool := !e j && (crB n U j c && decide (hg n U v j (z : Rat) < y))
theorem cr_thr {j : Nat} {z : Int} (hE : EV n U) (hz : z % 2 = 0) (h1 : U j ≠ z) (h2 : U (nx_ n j) ≠ z) : crB n U j (z - 1) = crB n U j (z + 1) := by
  have e1 := hE.1 j
  have e2 := hE.1 (nx_ n j)
  unfold crB
  rw [decide_eq_decide]
  omega
/-- no corner but those of named sides at z: the same on both sides of z -/
theorem sd_same {e : Nat → Bool} {z : Int} {y : Rat} (hE : EV n U) (hz : z % 2 = 0) (h : ∀ j, j < n → e j = false → U j ≠ z ∧ U (nx_ n j) ≠ z) : cn (sd_ n U v e z y (z - 1)) n = cn (sd_ n U v e z y (z + 1)) n := by
  refine cn_cong fun j hj => ?_
  unfold sd_
  by_cases c : e j = true
  · simp [c]
  · have c : e j = false := by simpa using c
    obtain ⟨h1, h2⟩ := h j hj c
    rw [cr_thr hE hz h1 h2]
/-- one side is named, which passes through z -/
theorem sd_par {i : Nat} {z : Int} {y : Rat} (hn : 2 ≤ n) (hE : EV n U) (hz : z % 2 = 0) (hi : U i ≠ z ∧ U (nx_ n i) ≠ z) : cn (sd_ n U v (fun j => decide (j = i)) z y (z - 1)) n % 2 = cn (sd_ n U v (fun j => decide (j = i)) z y (z + 1)) n % 2 := by
  by_cases ex : ∃ k, k < n ∧ U k = z
  · obtain ⟨k, hk, hkz⟩ := ex
    have hp := pv_lt hk
    have hnp := nx_pv hk
    have kp : k ≠ pv_ n k := fun e => by
      have := nx_ne hn hp
      rw [hnp] at this
      exact this e
    have ki : k ≠ i := fun e => hi.1 (by rw [← e]; exact hkz)
    have pi : pv_ n k ≠ i := fun e => hi.2 (by rw [← e, hnp]; exact hkz)
    have un : ∀ j, j < n → U j = z → j = k := fun j hj e => hE.2 j k hj hk (by rw [e, hkz])
    have dk : U (nx_ n k) ≠ z := fun e => nx_ne hn hk (un _ (nx_lt hk) e)
    have dp : U (pv_ n k) ≠ z := fun e => kp (un _ hp e).symm
    obtain ⟨w, w1, w2⟩ := cn_par (p := sd_ n U v (fun j => decide (j = i)) z y (z - 1)) (q := sd_ n U v (fun j => decide (j = i)) z y (z + 1)) kp hk hp fun j hj j1 j2 => by
      unfold sd_
      rw [cr_thr hE hz (fun e => j1 (un j hj e)) (fun e => j2 (by
        have := un _ (nx_lt hj) e
        exact nx_inj hj hp (by rw [this, hnp])))]
    rw [w1, w2]
    have hk1 : hg n U v k (z : Rat) = v k := by rw [← hkz]; exact hg_a
    have hp1 : hg n U v (pv_ n k) (z : Rat) = v k := by
      have := hg_b (n := n) (U := U) (v := v) (i := pv_ n k) (by rw [hnp, hkz]; exact dp)
      rw [hnp, hkz] at this; exact this
    have ek := hE.1 (nx_ n k)
    have ep := hE.1 (pv_ n k)
    have s1 : ∀ c, sd_ n U v (fun j => decide (j = i)) z y c k = (crB n U k c && decide (v k < y)) := fun c => by unfold sd_; simp [ki, hk1]
    have s2 : ∀ c, sd_ n U v (fun j => decide (j = i)) z y c (pv_ n k) = (crB n U (pv_ n k) c && decide (v k < y)) := fun c => by unfold sd_; simp [pi, hp1]
    rw [s1, s1, s2, s2]
    have x1 : crB n U k (z - 1) = !crB n U k (z + 1) := by
      unfold crB
      rw [hkz]
      by_cases c : U (nx_ n k) < z
      · rw [decide_eq_true (by omega), decide_eq_false (by omega)]; rfl
      · rw [decide_eq_false (by omega), decide_eq_true (by omega)]; rfl
    have x2 : crB n U (pv_ n k) (z - 1) = !crB n U (pv_ n k) (z + 1) := by
      unfold crB
      rw [hnp, hkz]
      by_cases c : U (pv_ n k) < z
      · rw [decide_eq_true (by omega), decide_eq_false (by omega)]; rfl
      · rw [decide_eq_false (by omega), decide_eq_true (by omega)]; rfl
    rw [x1, x2]
    cases crB n U k (z + 1) <;> cases crB n U (pv_ n k) (z + 1) <;> cases decide (v k < y) <;> simp <;> omega
  · rw [cn_cong fun j hj => ?_]
    unfold sd_
    rw [cr_thr hE hz (fun e => ex ⟨j, hj, e⟩) (fun e => ex ⟨_, nx_lt hj, e⟩)]
theorem cr_z {i : Nat} {z : Int} (h1 : cr n U i (z - 1)) (h2 : cr n U i (z + 1)) : U i ≠ z ∧ U (nx_ n i) ≠ z := by
  unfold cr at h1 h2
  omega
theorem bl_thr {i : Nat} {c z : Int} (hE : EV n U) (hM : NM n U v) (hi : i < n) (hc : c % 2 = 1) (hz : z = c + 1 ∨ z = c - 1) (ci : cr n U i c) (ne : U i ≠ z ∧ U (nx_ n i) ≠ z) : bl n U v i c = cn (sd_ n U v (fun j => decide (j = i)) z (hg n U v i (z : Rat)) c) n := by
  refine cn_cong fun j hj => ?_
  unfold bel sd_
  by_cases e : j = i
  · subst e
    have : ¬ hg n U v j (c : Rat) < hg n U v j (c : Rat) := by grind
    simp [this]
  · simp only [e, decide_false, Bool.not_false, Bool.true_and]
    by_cases cj : crB n U j c = true
    · rw [cj, Bool.true_and, Bool.true_and, decide_eq_decide]
      exact keep_at hE hM hi hj (fun q => e q.symm) hc hz ci (crB_iff.mp cj) ⟨fun w => ne.2 (by rw [← w.1]; exact w.2), fun w => ne.1 w.2⟩
    · have : crB n U j c = false := by simpa using cj
      rw [this]; rfl
theorem sig_thr {i : Nat} {z : Int} (hn : 2 ≤ n) (hE : EV n U) (hM : NM n U v) (hi : i < n) (hz : z % 2 = 0) (h1 : cr n U i (z - 1)) (h2 : cr n U i (z + 1)) : sgR n U v i (z - 1) = sgR n U v i (z + 1) := by
  have ne := cr_z h1 h2
  unfold sgR
  rw [bl_thr hE hM hi (by omega) (Or.inl (by omega)) h1 ne, bl_thr hE hM hi (by omega) (Or.inr (by omega)) h2 ne, sd_par hn hE hz ne]
theorem bl_vtx {k e o : Nat} {c : Int} (hE : EV n U) (hM : NM n U v) (hk : k < n) (he : e < n) (ho : o < n) (heo : (e = k ∧ o = pv_ n k) ∨ (e = pv_ n k ∧ o = k)) (hc : c % 2 = 1) (hz : U k = c + 1 ∨ U k = c - 1) (ce : cr n U e c) (hez : hg n U v e (U k : Rat) = v k) : bl n U v e c = cn (sd_ n U v (fun j => decide (j = k) || decide (j = pv_ n k)) (U k) (v k) c) n + (if bel n U v e c o = true then 1 else 0) := by
  have hnp := nx_pv hk
  unfold bl
  rw [cn_rm (p := bel n U v e c) ho]
  congr 1
  refine cn_cong fun j hj => ?_
  by_cases ej : j = e
  · subst ej
    have : ¬ hg n U v j (c : Rat) < hg n U v j (c : Rat) := by grind
    unfold bel sd_
    rcases heo with ⟨rfl, _⟩ | ⟨h1, _⟩
    · simp [this]
    · simp [this, ← h1]
  · by_cases eo : j = o
    · subst eo
      unfold sd_
      rcases heo with ⟨_, h1⟩ | ⟨_, h1⟩
      · simp [← h1]
      · simp [h1]
    · have nk : j ≠ k := by rcases heo with ⟨h1, _⟩ | ⟨_, h1⟩ <;> (rw [← h1]; assumption)
      have np : j ≠ pv_ n k := by rcases heo with ⟨_, h1⟩ | ⟨h1, _⟩ <;> (rw [← h1]; assumption)
      unfold bel sd_
      simp only [nk, np, eo, decide_false, Bool.or_false, Bool.not_false, Bool.true_and, ne_eq, not_false_eq_true, decide_true, Bool.and_true]
      by_cases cj : crB n U j c = true
      · rw [cj, Bool.true_and, Bool.true_and, decide_eq_decide, ← hez]
        refine keep_at hE hM he hj (fun q => ej q.symm) hc hz ce (crB_iff.mp cj) ⟨fun w => nk (hE.2 j k hj hk w.2), fun w => ?_⟩
        have := hE.2 e k he hk w.2
        refine np (nx_inj hj (pv_lt hk) ?_)
        rw [hnp, ← this]; exact w.1.symm
      · have : crB n U j c = false := by simpa using cj
        rw [this]; rfl
def fl_ (n : Nat) (U : Nat → Int) (i : Nat) : Int := if U i < U (nx_ n i) then U i + 1 else U i - 1
def ll_ (n : Nat) (U : Nat → Int) (i : Nat) : Int := if U i < U (nx_ n i) then U (nx_ n i) - 1 else U (nx_ n i) + 1
theorem difR {i : Nat} (hn : 2 ≤ n) (hE : EV n U) (hi : i < n) : U i ≠ U (nx_ n i) := fun e => nx_ne hn hi (hE.2 i _ hi (nx_lt hi) e).symm
theorem fl_cr {i : Nat} (hn : 2 ≤ n) (hE : EV n U) (hi : i < n) : cr n U i (fl_ n U i) ∧ fl_ n U i % 2 = 1 ∧ cr n U i (ll_ n U i) ∧ ll_ n U i % 2 = 1 := by
  have := difR hn hE hi
  have e1 := hE.1 i
  have e2 := hE.1 (nx_ n i)
  unfold fl_ ll_ cr
  split <;> omega
theorem sig_vtx {k : Nat} (hn : 2 ≤ n) (hE : EV n U) (hM : NM n U v) (hk : k < n) : sgR n U v (pv_ n k) (ll_ n U (pv_ n k)) = sgR n U v k (fl_ n U k) := by
  have hnp := nx_pv hk
  have hp := pv_lt hk
  have kp : k ≠ pv_ n k := fun e => by
    have := nx_ne hn hp
    rw [hnp] at this
    exact this e
  have d1 := difR hn hE hk
  have d2 := difR hn hE hp
  rw [hnp] at d2
  obtain ⟨f1, f2, -, -⟩ := fl_cr hn hE hk
  obtain ⟨-, -, f3, f4⟩ := fl_cr hn hE hp
  have hk1 : hg n U v k (U k : Rat) = v k := hg_a
  have hp1 : hg n U v (pv_ n k) (U k : Rat) = v k := by
    have := hg_b (n := n) (U := U) (v := v) (i := pv_ n k) (by rw [hnp]; exact d2)
    rw [hnp] at this; exact this
  have ek := hE.1 k
  have bp := bl_vtx (v := v) (c := ll_ n U (pv_ n k)) hE hM hk hp hk (Or.inr ⟨rfl, rfl⟩) f4 (by unfold ll_; rw [hnp]; split <;> omega) f3 hp1
  have bk := bl_vtx (v := v) (c := fl_ n U k) hE hM hk hk hp (Or.inl ⟨rfl, rfl⟩) f2 (by unfold fl_; split <;> omega) f1 hk1
  have same : cn (sd_ n U v (fun j => decide (j = k) || decide (j = pv_ n k)) (U k) (v k) (U k - 1)) n = cn (sd_ n U v (fun j => decide (j = k) || decide (j = pv_ n k)) (U k) (v k) (U k + 1)) n := sd_same hE ek fun j hj e => by
    have e' : j ≠ k ∧ j ≠ pv_ n k := by
      rw [Bool.or_eq_false_iff, decide_eq_false_iff_not, decide_eq_false_iff_not] at e
      exact e
    refine ⟨fun q => e'.1 (hE.2 j k hj hk q), fun q => e'.2 (nx_inj hj hp ?_)⟩
    rw [hnp]
    exact hE.2 _ k (nx_lt hj) hk q
  have lp : ll_ n U (pv_ n k) = if U (pv_ n k) < U k then U k - 1 else U k + 1 := by unfold ll_; rw [hnp]
  have sp : sgn_ n U (pv_ n k) = if U (pv_ n k) < U k then 1 else -1 := by unfold sgn_; rw [hnp]
  have lk : fl_ n U k = if U k < U (nx_ n k) then U k + 1 else U k - 1 := rfl
  have sk : sgn_ n U k = if U k < U (nx_ n k) then 1 else -1 := rfl
  unfold sgR
  rw [bp, bk, sp, sk]
  -- which of the two lies below the other, where both lie on one side
  have two : ∀ c : Int, ll_ n U (pv_ n k) = c → fl_ n U k = c → (bel n U v k c (pv_ n k) = true ↔ ¬ bel n U v (pv_ n k) c k = true) := fun c c1 c2 => by
    rw [c1] at f3 f4
    rw [c2] at f1
    unfold bel
    rw [crB_iff.mpr f1, crB_iff.mpr f3, Bool.true_and, Bool.true_and, decide_eq_true_iff, decide_eq_true_iff]
    have nq : hg n U v k (c : Rat) ≠ hg n U v (pv_ n k) (c : Rat) := fun e => by
      rcases hM k (pv_ n k) hk hp kp _ (cr_iR hE f4 f1).1 (cr_iR hE f4 f3).1 e with ⟨_, h2⟩ | ⟨_, h2⟩
      · have := Rat.intCast_inj.mp h2
        have := hE.1 (pv_ n k)
        omega
      · have := Rat.intCast_inj.mp h2
        omega
    constructor
    · intro a b; grind
    · intro a; grind
  by_cases a : U (pv_ n k) < U k
  · rw [if_pos a] at lp ⊢
    by_cases b : U k < U (nx_ n k)
    · rw [if_pos b] at lk ⊢
      have x1 : bel n U v (pv_ n k) (ll_ n U (pv_ n k)) k = false := by
        unfold bel crB
        rw [lp, decide_eq_false (by omega)]; rfl
      have x2 : bel n U v k (fl_ n U k) (pv_ n k) = false := by
        unfold bel crB
        rw [lk, hnp, decide_eq_false (by omega)]; rfl
      rw [x1, x2, lp, lk, same]
    · rw [if_neg b] at lk ⊢
      have t := two _ lp lk
      rw [lp, lk]
      by_cases w : bel n U v k (U k - 1) (pv_ n k) = true
      · rw [if_pos w, if_neg (t.mp w)]
        split <;> split <;> first | rfl | omega
      · have w2 : bel n U v (pv_ n k) (U k - 1) k = true := by
          by_cases q : bel n U v (pv_ n k) (U k - 1) k = true
          · exact q
          · exact absurd (t.mpr q) w
        rw [if_neg w, if_pos w2]
        split <;> split <;> first | rfl | omega
  · rw [if_neg a] at lp ⊢
    by_cases b : U k < U (nx_ n k)
    · rw [if_pos b] at lk ⊢
      have t := two _ lp lk
      rw [lp, lk]
      by_cases w : bel n U v k (U k + 1) (pv_ n k) = true
      · rw [if_pos w, if_neg (t.mp w)]
        split <;> split <;> first | rfl | omega
      · have w2 : bel n U v (pv_ n k) (U k + 1) k = true := by
          by_cases q : bel n U v (pv_ n k) (U k + 1) k = true
          · exact q
          · exact absurd (t.mpr q) w
        rw [if_neg w, if_pos w2]
        split <;> split <;> first | rfl | omega
    · rw [if_neg b] at lk ⊢
      have x1 : bel n U v (pv_ n k) (ll_ n U (pv_ n k)) k = false := by
        unfold bel crB
        rw [lp, decide_eq_false (by omega)]; rfl
      have x2 : bel n U v k (fl_ n U k) (pv_ n k) = false := by
        unfold bel crB
        rw [lk, hnp, decide_eq_false (by omega)]; rfl
      rw [x1, x2, lp, lk, same]
theorem sig_run {i : Nat} (hn : 2 ≤ n) (hE : EV n U) (hM : NM n U v) (hi : i < n) {c : Int} (hc : c % 2 = 1) (h : cr n U i c) : sgR n U v i c = sgR n U v i (fl_ n U i) := by
  have e1 := hE.1 i
  have up : U i < U (nx_ n i) → ∀ m : Nat, cr n U i (U i + 1 + 2 * m) → sgR n U v i (U i + 1 + 2 * m) = sgR n U v i (U i + 1) := fun c1 m => by
    induction m with
    | zero => intro _; rw [show U i + 1 + 2 * ((0 : Nat) : Int) = U i + 1 by omega]
    | succ m ih =>
      intro h2
      have h1 : cr n U i (U i + 1 + 2 * m) := by unfold cr at h2 ⊢; omega
      rw [← ih h1]
      have := sig_thr (z := U i + 2 + 2 * m) hn hE hM hi (by omega) (by rw [show U i + 2 + 2 * (m : Int) - 1 = U i + 1 + 2 * m by omega]; exact h1) (by rw [show U i + 2 + 2 * (m : Int) + 1 = U i + 1 + 2 * ((m + 1 : Nat) : Int) by omega]; exact h2)
      rw [show U i + 2 + 2 * (m : Int) - 1 = U i + 1 + 2 * m by omega, show U i + 2 + 2 * (m : Int) + 1 = U i + 1 + 2 * ((m + 1 : Nat) : Int) by omega] at this
      exact this.symm
  have dn : ¬ U i < U (nx_ n i) → ∀ m : Nat, cr n U i (U i - 1 - 2 * m) → sgR n U v i (U i - 1 - 2 * m) = sgR n U v i (U i - 1) := fun c1 m => by
    induction m with
    | zero => intro _; rw [show U i - 1 - 2 * ((0 : Nat) : Int) = U i - 1 by omega]
    | succ m ih =>
      intro h2
      have h1 : cr n U i (U i - 1 - 2 * m) := by unfold cr at h2 ⊢; omega
      rw [← ih h1]
      have := sig_thr (z := U i - 2 - 2 * m) hn hE hM hi (by omega) (by rw [show U i - 2 - 2 * (m : Int) - 1 = U i - 1 - 2 * ((m + 1 : Nat) : Int) by omega]; exact h2) (by rw [show U i - 2 - 2 * (m : Int) + 1 = U i - 1 - 2 * m by omega]; exact h1)
      rw [show U i - 2 - 2 * (m : Int) + 1 = U i - 1 - 2 * m by omega, show U i - 2 - 2 * (m : Int) - 1 = U i - 1 - 2 * ((m + 1 : Nat) : Int) by omega] at this
      exact this
  unfold fl_
  by_cases c1 : U i < U (nx_ n i)
  · rw [if_pos c1]
    have e : c = U i + 1 + 2 * (((c - U i - 1) / 2).toNat : Int) := by unfold cr at h; omega
    rw [e] at h ⊢
    exact up c1 _ h
  · rw [if_neg c1]
    have e : c = U i - 1 - 2 * (((U i - 1 - c) / 2).toNat : Int) := by unfold cr at h; omega
    rw [e] at h ⊢
    exact dn c1 _ h
/-- the same all round the ring -/
theorem sig_all (hn : 2 ≤ n) (hE : EV n U) (hM : NM n U v) {i : Nat} (hi : i < n) {c : Int} (hc : c % 2 = 1) (h : cr n U i c) : sgR n U v i c = sgR n U v 0 (fl_ n U 0) := by
  rw [sig_run hn hE hM hi hc h]
  have key : ∀ k, k < n → sgR n U v k (fl_ n U k) = sgR n U v 0 (fl_ n U 0) := fun k => by
    induction k with
    | zero => intro _; rfl
    | succ k ih =>
      intro hk
      have e : pv_ n (k + 1) = k := by unfold pv_; rw [if_neg (by omega)]; omega
      have := sig_vtx hn hE hM hk
      rw [e] at this
      obtain ⟨-, -, f3, f4⟩ := fl_cr (i := k) hn hE (by omega)
      rw [← this, sig_run hn hE hM (by omega) f4 f3]
      exact ih (by omega)
  exact key i hi
end Area
