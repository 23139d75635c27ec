/-! the corners as they are drawn -/
section Ring
variable {n : Nat} {x y : Nat → Int}
def tn (x y : Nat → Int) (a b c : Nat) : Int := (x b - x a) * (y c - y a) - (y b - y a) * (x c - x a)
def inB (x y : Nat → Int) (a b c : Nat) : Prop := (min (x a) (x b) ≤ x c ∧ x c ≤ max (x a) (x b)) ∧ (min (y a) (y b) ≤ y c ∧ y c ≤ max (y a) (y b))
def onS (x y : Nat → Int) (a b c : Nat) : Prop := inB x y a b c ∧ tn x y a b c = 0
def fldR (x y : Nat → Int) (a b c : Nat) : Prop := tn x y a b c = 0 ∧ (x b - x a) * (x c - x b) + (y b - y a) * (y c - y b) ≤ 0
def tch2 (x y : Nat → Int) (a b c d : Nat) : Prop := (onS x y a b c ∨ onS x y a b d ∨ onS x y c d a ∨ onS x y c d b) ∨ (tn x y a b c * tn x y a b d < 0 ∧ tn x y c d a * tn x y c d b < 0)
def RG (n : Nat) (x y : Nat → Int) : Prop := (∀ i, i < n → ¬ fldR x y i (nx_ n i) (nx_ n (nx_ n i))) ∧ ∀ i j, i < j → j < n → nx_ n i ≠ j → nx_ n j ≠ i → ¬ tch2 x y i (nx_ n i) j (nx_ n j)
def uu (x y : Nat → Int) (k : Nat) : Int := 2 * (2001 * x k + y k)
theorem tch2_sym {a b c d : Nat} (h : tch2 x y a b c d) : tch2 x y c d a b := by
  unfold tch2 at *
  rcases h with (h | h | h | h) | ⟨h1, h2⟩
  · exact Or.inl (Or.inr (Or.inr (Or.inl h)))
  · exact Or.inl (Or.inr (Or.inr (Or.inr h)))
  · exact Or.inl (Or.inl h)
  · exact Or.inl (Or.inr (Or.inl h))
  · exact Or.inr ⟨h2, h1⟩
theorem tn_u (a b c : Nat) : 2 * tn x y a b c = (x b - x a) * (uu x y c - uu x y a) - (uu x y b - uu x y a) * (x c - x a) := by
  unfold tn uu; grind
theorem tn_uy (a b c : Nat) : 2002 * (2 * tn x y a b c) = 2002 * ((x b - x a) * (uu x y c - uu x y a) - (uu x y b - uu x y a) * (x c - x a)) := by rw [tn_u]
/-- what is proportional lies between -/
theorem btw {w t dx e : Int} (hw : 0 < w) (ht : 0 ≤ t ∧ t ≤ w) (h : e * w = t * dx) : min 0 dx ≤ e ∧ e ≤ max 0 dx := by
  by_cases c : 0 ≤ dx
  · have h1 : 0 ≤ t * dx := Int.mul_nonneg ht.1 c
    have h2 : t * dx ≤ w * dx := Int.mul_le_mul_of_nonneg_right ht.2 c
    rw [← h] at h1 h2
    have e1 : 0 ≤ e := by
      by_cases q : 0 ≤ e
      · exact q
      · have := Int.mul_neg_of_neg_of_pos (show e < 0 by omega) hw
        omega
    have e2 : e ≤ dx := by
      rw [Int.mul_comm w dx] at h2
      exact Int.le_of_mul_le_mul_right h2 hw
    omega
  · have c' : 0 ≤ -dx := by omega
    have h1 : 0 ≤ t * (-dx) := Int.mul_nonneg ht.1 c'
    have h2 : t * (-dx) ≤ w * (-dx) := Int.mul_le_mul_of_nonneg_right ht.2 c'
    have h' : (-e) * w = t * (-dx) := by grind
    rw [← h'] at h1 h2
    have e1 : 0 ≤ -e := by
      by_cases q : 0 ≤ -e
      · exact q
      · have := Int.mul_neg_of_neg_of_pos (show -e < 0 by omega) hw
        omega
    have e2 : -e ≤ -dx := by
      rw [Int.mul_comm w (-dx)] at h2
      exact Int.le_of_mul_le_mul_right h2 hw
    omega
theorem onS_of {a b c : Nat} (h0 : tn x y a b c = 0) (hu : uu x y a ≠ uu x y b) (hr : (uu x y a ≤ uu x y c ∧ uu x y c ≤ uu x y b) ∨ (uu x y b ≤ uu x y c ∧ uu x y c ≤ uu x y a)) : onS x y a b c := by
  refine ⟨?_, h0⟩
  have e := tn_u (x := x) (y := y) a b c
  have ey : ∀ k, 2 * y k = uu x y k - 4002 * x k := fun k => by unfold uu; omega
  rw [h0] at e
  have e1 : (x c - x a) * (uu x y b - uu x y a) = (uu x y c - uu x y a) * (x b - x a) := by grind
  have e2 : (y c - y a) * (uu x y b - uu x y a) = (uu x y c - uu x y a) * (y b - y a) := by
    have ya := ey a; have yb := ey b; have yc := ey c
    have : 2 * ((y c - y a) * (uu x y b - uu x y a)) = 2 * ((uu x y c - uu x y a) * (y b - y a)) := by
      have l : 2 * ((y c - y a) * (uu x y b - uu x y a)) = (2 * y c - 2 * y a) * (uu x y b - uu x y a) := by grind
      have r : 2 * ((uu x y c - uu x y a) * (y b - y a)) = (uu x y c - uu x y a) * (2 * y b - 2 * y a) := by grind
      rw [l, r, ya, yb, yc]
      grind
    omega
  have key : ∀ (A B C : Int), (C - A) * (uu x y b - uu x y a) = (uu x y c - uu x y a) * (B - A) → min A B ≤ C ∧ C ≤ max A B := fun A B C h => by
    rcases hr with r | r
    · have := btw (w := uu x y b - uu x y a) (t := uu x y c - uu x y a) (dx := B - A) (e := C - A) (by omega) (by omega) h
      omega
    · have := btw (w := uu x y a - uu x y b) (t := uu x y a - uu x y c) (dx := B - A) (e := C - A) (by omega) (by omega) (by grind)
      omega
  exact ⟨key _ _ _ e1, key _ _ _ e2⟩
theorem rg_dif (hn : 3 ≤ n) (h : RG n x y) (hb : ∀ k, k < n → (-1000 ≤ x k ∧ x k ≤ 1000) ∧ (-1000 ≤ y k ∧ y k ≤ 1000)) : EV n (uu x y) := by
  refine ⟨fun k => by unfold uu; omega, fun i j hi hj e => ?_⟩
  have two : ∀ i j, i < j → j < n → uu x y i = uu x y j → False := fun i j hij hj e => by
    have bi := hb i (by omega)
    have bj := hb j hj
    have ex : x i = x j := by unfold uu at e; omega
    have ey : y i = y j := by unfold uu at e; omega
    by_cases a1 : nx_ n i = j
    · refine h.1 i (by omega) ⟨?_, ?_⟩
      · unfold tn; rw [a1, ex, ey]; grind
      · rw [a1, ex, ey]; grind
    · by_cases a2 : nx_ n j = i
      · refine h.1 j hj ⟨?_, ?_⟩
        · unfold tn; rw [a2, ex, ey]; grind
        · rw [a2, ex, ey]; grind
      · refine h.2 i j hij hj a1 a2 (Or.inl (Or.inl ⟨⟨?_, ?_⟩, ?_⟩))
        · rw [← ex]; omega
        · rw [← ey]; omega
        · unfold tn; rw [← ex, ← ey]; grind
  rcases Nat.lt_trichotomy i j with c | c | c
  · exact (two i j c hj e).elim
  · exact c
  · exact (two j i c hi e.symm).elim
abbrev vv (x : Nat → Int) (k : Nat) : Rat := (x k : Rat)
theorem tn_hg {i c : Nat} (hu : uu x y i ≠ uu x y (nx_ n i)) : (2 : Rat) * (tn x y i (nx_ n i) c : Rat) = ((uu x y (nx_ n i) : Rat) - (uu x y i : Rat)) * (hg n (uu x y) (vv x) i (uu x y c : Rat) - (x c : Rat)) := by
  have e := congrArg (fun z : Int => (z : Rat)) (tn_u (x := x) (y := y) i (nx_ n i) c)
  simp only [Rat.intCast_mul, Rat.intCast_sub] at e
  have p : ((2 : Int) : Rat) = 2 := rfl
  rw [p] at e
  rw [e]
  have hc := cast_ne hu
  unfold hg rb vv
  grind
theorem sqn (d : Int) : 0 ≤ d * d := by
  by_cases c : 0 ≤ d
  · exact Int.mul_nonneg c c
  · have := Int.mul_nonneg (show 0 ≤ -d by omega) (show 0 ≤ -d by omega)
    have e : -d * -d = d * d := by grind
    omega
theorem along_le {W z dx dy ex ey : Int} (h : (0 < W ∧ z ≤ 0) ∨ (W < 0 ∧ 0 ≤ z)) (h1 : ex * W = z * dx) (h2 : ey * W = z * dy) : dx * ex + dy * ey ≤ 0 := by
  have s1 : 0 ≤ dx * dx + dy * dy := by
    have := sqn dx
    have := sqn dy
    omega
  have e : (dx * ex + dy * ey) * W = z * (dx * dx + dy * dy) := by grind
  generalize dx * ex + dy * ey = A at e
  generalize dx * dx + dy * dy = B at e s1
  by_cases q : A ≤ 0
  · exact q
  · exfalso
    rcases h with ⟨w, z0⟩ | ⟨w, z0⟩
    · have := Int.mul_pos (show 0 < A by omega) w
      have := Int.mul_nonneg (show 0 ≤ -z by omega) s1
      have e3 : -z * B = -(z * B) := by grind
      omega
    · have := Int.mul_pos (show 0 < A by omega) (show 0 < -W by omega)
      have e3 : A * -W = -(A * W) := by grind
      have := Int.mul_nonneg z0 s1
      omega
theorem nm_adj (hn : 3 ≤ n) (hE : EV n (uu x y)) {i j : Nat} (hi : i < n) (hj : j < n) (e : j = nx_ n i) (hf : ¬ fldR x y i (nx_ n i) (nx_ n (nx_ n i))) {t : Rat} (ti : iR n (uu x y) i t) (tj : iR n (uu x y) j t) (h : hg n (uu x y) (vv x) i t = hg n (uu x y) (vv x) j t) : t = (uu x y j : Rat) := by
  have di := difR (U := uu x y) (by omega) hE hi
  have dj := difR (U := uu x y) (by omega) hE hj
  have b1 := hg_b (v := vv x) di
  rw [← e] at b1
  have a1 : hg n (uu x y) (vv x) j (uu x y j : Rat) = vv x j := hg_a
  have q0 : (rb (uu x y) (vv x) n j - rb (uu x y) (vv x) n i) * ((uu x y j : Rat) - t) = 0 := by
    have p1 : hg n (uu x y) (vv x) i (uu x y j : Rat) = hg n (uu x y) (vv x) i t + rb (uu x y) (vv x) n i * ((uu x y j : Rat) - t) := by unfold hg; grind
    have p2 : hg n (uu x y) (vv x) j (uu x y j : Rat) = hg n (uu x y) (vv x) j t + rb (uu x y) (vv x) n j * ((uu x y j : Rat) - t) := by unfold hg; grind
    rw [b1] at p1
    rw [a1] at p2
    grind
  by_cases c : t = (uu x y j : Rat)
  · exact c
  · exfalso
    have lt : ∀ {a b : Int}, (a : Rat) < (b : Rat) → a < b := fun h => Rat.intCast_lt_intCast.mp h
    have qz : rb (uu x y) (vv x) n j - rb (uu x y) (vv x) n i = 0 := by grind
    have hu := tn_hg (x := x) (y := y) (c := nx_ n j) di
    have b2 := hg_b (v := vv x) dj
    have p3 : hg n (uu x y) (vv x) i (uu x y (nx_ n j) : Rat) = vv x (nx_ n j) := by
      have p1 : hg n (uu x y) (vv x) i (uu x y (nx_ n j) : Rat) = hg n (uu x y) (vv x) i t + rb (uu x y) (vv x) n i * ((uu x y (nx_ n j) : Rat) - t) := by unfold hg; grind
      have p2 : hg n (uu x y) (vv x) j (uu x y (nx_ n j) : Rat) = hg n (uu x y) (vv x) j t + rb (uu x y) (vv x) n j * ((uu x y (nx_ n j) : Rat) - t) := by unfold hg; grind
      rw [b2] at p2
      grind
    rw [p3] at hu
    have t0 : tn x y i (nx_ n i) (nx_ n j) = 0 := by
      have : (tn x y i (nx_ n i) (nx_ n j) : Rat) = ((0 : Int) : Rat) := by
        have z : ((0 : Int) : Rat) = 0 := rfl
        rw [z]; unfold vv at hu; grind
      exact Rat.intCast_inj.mp this
    rw [e] at t0
    refine hf ⟨t0, ?_⟩
    have u0 := tn_u (x := x) (y := y) i (nx_ n i) (nx_ n (nx_ n i))
    rw [t0] at u0
    have ey : ∀ k, 2 * y k = uu x y k - 4002 * x k := fun k => by unfold uu; omega
    have side : (0 < uu x y (nx_ n i) - uu x y i ∧ uu x y (nx_ n (nx_ n i)) - uu x y (nx_ n i) ≤ 0) ∨ (uu x y (nx_ n i) - uu x y i < 0 ∧ 0 ≤ uu x y (nx_ n (nx_ n i)) - uu x y (nx_ n i)) := by
      unfold iR at ti tj
      rw [← e] at ti ⊢
      rcases ti with ⟨r1, r2⟩ | ⟨r1, r2⟩
      · have l1 : uu x y i < uu x y j := lt (by grind)
        have l2 : uu x y (nx_ n j) < uu x y j := lt (by grind)
        omega
      · have l1 : uu x y j < uu x y i := lt (by grind)
        have l2 : uu x y j < uu x y (nx_ n j) := lt (by grind)
        omega
    have k1 : (x (nx_ n (nx_ n i)) - x (nx_ n i)) * (uu x y (nx_ n i) - uu x y i) = (uu x y (nx_ n (nx_ n i)) - uu x y (nx_ n i)) * (x (nx_ n i) - x i) := by grind
    refine along_le side k1 ?_
    have l : 2 * ((y (nx_ n (nx_ n i)) - y (nx_ n i)) * (uu x y (nx_ n i) - uu x y i)) = (2 * y (nx_ n (nx_ n i)) - 2 * y (nx_ n i)) * (uu x y (nx_ n i) - uu x y i) := by grind
    have r : 2 * ((uu x y (nx_ n (nx_ n i)) - uu x y (nx_ n i)) * (y (nx_ n i) - y i)) = (uu x y (nx_ n (nx_ n i)) - uu x y (nx_ n i)) * (2 * y (nx_ n i) - 2 * y i) := by grind
    have : 2 * ((y (nx_ n (nx_ n i)) - y (nx_ n i)) * (uu x y (nx_ n i) - uu x y i)) = 2 * ((uu x y (nx_ n (nx_ n i)) - uu x y (nx_ n i)) * (y (nx_ n i) - y i)) := by
      rw [l, r, ey, ey, ey]; grind
    omega
theorem prodneg {W q u1 u2 t : Rat} (hW : W ≠ 0) (hq : q ≠ 0) (h : (u1 < t ∧ t < u2) ∨ (u2 < t ∧ t < u1)) {T1 T2 : Int} (h1 : 2 * (T1 : Rat) = W * q * (u1 - t)) (h2 : 2 * (T2 : Rat) = W * q * (u2 - t)) : T1 * T2 < 0 := by
  have sq : 0 < (W * q) * (W * q) := by
    have : W * q ≠ 0 := by grind
    rcases (show W * q < 0 ∨ 0 < W * q by grind) with c | c
    · have := Rat.mul_pos (a := -(W * q)) (b := -(W * q)) (by grind) (by grind)
      grind
    · exact Rat.mul_pos c c
  have s2 : 0 < (t - u1) * (u2 - t) := by
    rcases h with ⟨a, b⟩ | ⟨a, b⟩
    · exact Rat.mul_pos (by grind) (by grind)
    · have := Rat.mul_pos (a := u1 - t) (b := t - u2) (by grind) (by grind)
      grind
  have p := Rat.mul_pos sq s2
  have e : 4 * ((T1 : Rat) * (T2 : Rat)) = -(((W * q) * (W * q)) * ((t - u1) * (u2 - t))) := by grind
  have : ((T1 * T2 : Int) : Rat) < ((0 : Int) : Rat) := by
    have z : ((0 : Int) : Rat) = 0 := rfl
    rw [Rat.intCast_mul, z]; grind
  exact Rat.intCast_lt_intCast.mp this
theorem nm_far (hn : 3 ≤ n) (hE : EV n (uu x y)) {i j : Nat} (hi : i < n) (hj : j < n) {t : Rat} (ti : iR n (uu x y) i t) (tj : iR n (uu x y) j t) (h : hg n (uu x y) (vv x) i t = hg n (uu x y) (vv x) j t) : tch2 x y i (nx_ n i) j (nx_ n j) := by
  have di := difR (U := uu x y) (by omega) hE hi
  have dj := difR (U := uu x y) (by omega) hE hj
  have z : ((0 : Int) : Rat) = 0 := rfl
  have le : ∀ {a b : Int}, (a : Rat) ≤ (b : Rat) → a ≤ b := fun h => Rat.intCast_le_intCast.mp h
  have ci := cast_ne di
  have cj := cast_ne dj
  have A1 : hg n (uu x y) (vv x) i (uu x y i : Rat) = (x i : Rat) := hg_a
  have B1 := hg_b (v := vv x) di
  have C1 : hg n (uu x y) (vv x) j (uu x y j : Rat) = (x j : Rat) := hg_a
  have D1 := hg_b (v := vv x) dj
  have af : ∀ s, hg n (uu x y) (vv x) j s - hg n (uu x y) (vv x) i s = (rb (uu x y) (vv x) n j - rb (uu x y) (vv x) n i) * (s - t) := fun s => by
    have p1 : hg n (uu x y) (vv x) i s = hg n (uu x y) (vv x) i t + rb (uu x y) (vv x) n i * (s - t) := by unfold hg; grind
    have p2 : hg n (uu x y) (vv x) j s = hg n (uu x y) (vv x) j t + rb (uu x y) (vv x) n j * (s - t) := by unfold hg; grind
    grind
  generalize hq : rb (uu x y) (vv x) n j - rb (uu x y) (vv x) n i = q at af
  have tc : 2 * (tn x y i (nx_ n i) j : Rat) = -((uu x y (nx_ n i) : Rat) - (uu x y i : Rat)) * q * ((uu x y j : Rat) - t) := by
    have := tn_hg (x := x) (y := y) (c := j) di
    have := af (uu x y j : Rat)
    grind
  have td : 2 * (tn x y i (nx_ n i) (nx_ n j) : Rat) = -((uu x y (nx_ n i) : Rat) - (uu x y i : Rat)) * q * ((uu x y (nx_ n j) : Rat) - t) := by
    have := tn_hg (x := x) (y := y) (c := nx_ n j) di
    have := af (uu x y (nx_ n j) : Rat)
    unfold vv at D1
    grind
  have ta : 2 * (tn x y j (nx_ n j) i : Rat) = ((uu x y (nx_ n j) : Rat) - (uu x y j : Rat)) * q * ((uu x y i : Rat) - t) := by
    have := tn_hg (x := x) (y := y) (c := i) dj
    have := af (uu x y i : Rat)
    grind
  have tb : 2 * (tn x y j (nx_ n j) (nx_ n i) : Rat) = ((uu x y (nx_ n j) : Rat) - (uu x y j : Rat)) * q * ((uu x y (nx_ n i) : Rat) - t) := by
    have := tn_hg (x := x) (y := y) (c := nx_ n i) dj
    have := af (uu x y (nx_ n i) : Rat)
    unfold vv at B1
    grind
  have zero : ∀ {T : Int}, (2 : Rat) * (T : Rat) = 0 → T = 0 := fun {T} e => by
    have : (T : Rat) = ((0 : Int) : Rat) := by rw [z]; grind
    exact Rat.intCast_inj.mp this
  have onI : ∀ c, iR n (uu x y) i (uu x y c : Rat) → tn x y i (nx_ n i) c = 0 → onS x y i (nx_ n i) c := fun c hc h0 => onS_of h0 di (by
    rcases hc with ⟨r1, r2⟩ | ⟨r1, r2⟩
    · exact Or.inl ⟨le r1, le r2⟩
    · exact Or.inr ⟨le r1, le r2⟩)
  have onJ : ∀ c, iR n (uu x y) j (uu x y c : Rat) → tn x y j (nx_ n j) c = 0 → onS x y j (nx_ n j) c := fun c hc h0 => onS_of h0 dj (by
    rcases hc with ⟨r1, r2⟩ | ⟨r1, r2⟩
    · exact Or.inl ⟨le r1, le r2⟩
    · exact Or.inr ⟨le r1, le r2⟩)
  by_cases c1 : t = (uu x y j : Rat)
  · exact Or.inl (Or.inl (onI j (by rw [← c1]; exact ti) (zero (by rw [tc, c1]; grind))))
  · by_cases c2 : t = (uu x y (nx_ n j) : Rat)
    · exact Or.inl (Or.inr (Or.inl (onI _ (by rw [← c2]; exact ti) (zero (by rw [td, c2]; grind)))))
    · by_cases c3 : t = (uu x y i : Rat)
      · exact Or.inl (Or.inr (Or.inr (Or.inl (onJ _ (by rw [← c3]; exact tj) (zero (by rw [ta, c3]; grind))))))
      · by_cases c4 : t = (uu x y (nx_ n i) : Rat)
        · exact Or.inl (Or.inr (Or.inr (Or.inr (onJ _ (by rw [← c4]; exact tj) (zero (by rw [tb, c4]; grind))))))
        · by_cases hq0 : q = 0
          · rw [hq0] at tc td ta tb
            have z1 := zero (show (2 : Rat) * (tn x y i (nx_ n i) j : Rat) = 0 by grind)
            have z2 := zero (show (2 : Rat) * (tn x y i (nx_ n i) (nx_ n j) : Rat) = 0 by grind)
            have z3 := zero (show (2 : Rat) * (tn x y j (nx_ n j) i : Rat) = 0 by grind)
            have z4 := zero (show (2 : Rat) * (tn x y j (nx_ n j) (nx_ n i) : Rat) = 0 by grind)
            have w : iR n (uu x y) i (uu x y j : Rat) ∨ iR n (uu x y) i (uu x y (nx_ n j) : Rat) ∨ iR n (uu x y) j (uu x y i : Rat) ∨ iR n (uu x y) j (uu x y (nx_ n i) : Rat) := by
              unfold iR at *
              grind
            rcases w with w | w | w | w
            · exact Or.inl (Or.inl (onI _ w z1))
            · exact Or.inl (Or.inr (Or.inl (onI _ w z2)))
            · exact Or.inl (Or.inr (Or.inr (Or.inl (onJ _ w z3))))
            · exact Or.inl (Or.inr (Or.inr (Or.inr (onJ _ w z4))))
          · refine Or.inr ⟨prodneg (W := -((uu x y (nx_ n i) : Rat) - (uu x y i : Rat))) (by grind) hq0 ?_ tc td, prodneg (W := ((uu x y (nx_ n j) : Rat) - (uu x y j : Rat))) (by grind) hq0 ?_ ta tb⟩
            · unfold iR at tj
              grind
            · unfold iR at ti
              grind
theorem rg_nm (hn : 3 ≤ n) (h : RG n x y) (hE : EV n (uu x y)) : NM n (uu x y) (vv x) := by
  intro i j hi hj hij t ti tj e
  by_cases a1 : j = nx_ n i
  · exact Or.inl ⟨a1, nm_adj hn hE hi hj a1 (h.1 i hi) ti tj e⟩
  · by_cases a2 : i = nx_ n j
    · exact Or.inr ⟨a2, nm_adj hn hE hj hi a2 (h.1 j hj) tj ti e.symm⟩
    · exfalso
      have := nm_far hn hE hi hj ti tj e
      rcases Nat.lt_or_gt_of_ne hij with c | c
      · exact h.2 i j c hj (fun q => a1 q.symm) (fun q => a2 q.symm) this
      · exact h.2 j i c hi (fun q => a2 q.symm) (fun q => a1 q.symm) (tch2_sym this)
def isum (f : Nat → Int) : Nat → Int
  | 0 => 0
  | n + 1 => isum f n + f n
theorem isum_rs {f : Nat → Int} : ∀ {n : Nat}, ((isum f n : Int) : Rat) = rs_ (fun i => (f i : Rat)) n
  | 0 => rfl
  | n + 1 => by
    show ((isum f n + f n : Int) : Rat) = rs_ (fun i => (f i : Rat)) n + (f n : Rat)
    rw [Rat.intCast_add, isum_rs]
/-- a ring that doesn't touch itself has an area -/
theorem ring_area (hn : 3 ≤ n) (h : RG n x y) (hb : ∀ k, k < n → (-1000 ≤ x k ∧ x k ≤ 1000) ∧ (-1000 ≤ y k ∧ y k ≤ 1000)) : isum (fun i => x i * y (nx_ n i) - x (nx_ n i) * y i) n ≠ 0 := by
  have hE := rg_dif hn h hb
  have hM := rg_nm hn h hE
  have ne := area_ne (L0 := -4004000) (m := 4004000) (by omega) hE hM (by decide) (fun k hk => by
    have := hb k hk
    unfold uu; omega)
  intro z
  apply ne
  have e : rs_ (fun i => ((uu x y i : Rat) - (uu x y (nx_ n i) : Rat)) * (vv x i + vv x (nx_ n i))) n = rs_ (fun i => (-2) * ((x i * y (nx_ n i) - x (nx_ n i) * y i : Int) : Rat) + ((uu x y i : Rat) * vv x i + (-1) * ((uu x y (nx_ n i) : Rat) * vv x (nx_ n i)))) n := rs_cong fun i hi => by
    have u1 : ∀ k, (uu x y k : Rat) = 2 * (2001 * (x k : Rat) + (y k : Rat)) := fun k => by
      unfold uu
      rw [Rat.intCast_mul, Rat.intCast_add, Rat.intCast_mul]; rfl
    rw [Rat.intCast_sub, Rat.intCast_mul, Rat.intCast_mul, u1, u1]
    unfold vv
    grind
  rw [e, rs_add, rs_add, rs_mul, rs_mul, rs_nx (f := fun i => (uu x y i : Rat) * vv x i) (by omega), ← isum_rs, z]
  have z0 : ((0 : Int) : Rat) = 0 := rfl
  rw [z0]
  grind
end Ring
