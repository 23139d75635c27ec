/-! PURE: forests, what is live, the invariant, the relation of class and reference -/
theorem castN {x : Int} (h : 0 ≤ x) : x = ((x.toNat : Nat) : Int) := (Int.toNat_of_nonneg h).symm
theorem exN {x : Int} (h : 0 ≤ x) : ∃ k : Nat, x = (k : Int) := ⟨x.toNat, castN h⟩
theorem pigeon : ∀ (n : Nat) (l : List Nat), l.Nodup → (∀ x ∈ l, x < n) → l.length ≤ n
  | 0, [], _, _ => Nat.le_refl _
  | 0, x :: l, _, h => absurd (h x List.mem_cons_self) (Nat.not_lt_zero _)
  | n + 1, l, hd, h => by
    have h1 := pigeon n (l.erase n) (hd.erase n) (fun x hx => by
      rw [hd.mem_erase_iff] at hx
      have := h x hx.2
      omega)
    rw [List.length_erase] at h1
    split at h1 <;> omega
/-- a forest of N parts -/
def Fo (N : Int) (on : Nat → Int) : Prop := ∃ rk : Nat → Nat, ∀ k : Nat, (k : Int) < N → 0 ≤ on k → rk (on k).toNat < rk k
/-- how deep each hangs -/
def DP (N : Int) (on : Nat → Int) (dp : Nat → Nat) : Prop := ∀ k : Nat, (k : Int) < N → (-1 ≤ on k ∧ on k < N) ∧ (dp k : Int) < N ∧ (on k < 0 → dp k = 0) ∧ (0 ≤ on k → dp k = dp (on k).toNat + 1)
def dep (on : Nat → Int) : Nat → Nat → Nat
  | 0, _ => 0
  | f + 1, k => if on k < 0 then 0 else dep on f (on k).toNat + 1
def anc (on : Nat → Int) : Nat → Nat → List Nat
  | 0, k => [k]
  | f + 1, k => if on k < 0 then [k] else k :: anc on f (on k).toNat
theorem dep_st {N : Int} {on : Nat → Int} {rk : Nat → Nat} (hr : ∀ k : Nat, (k : Int) < N → on k < N) (h : ∀ k : Nat, (k : Int) < N → 0 ≤ on k → rk (on k).toNat < rk k) : ∀ (f f' k : Nat), (k : Int) < N → rk k ≤ f → rk k ≤ f' → dep on f k = dep on f' k
  | 0, 0, k, _, _, _ => rfl
  | 0, f' + 1, k, hk, h1, _ => by
    show 0 = if on k < 0 then 0 else _
    by_cases c : on k < 0
    · rw [if_pos c]
    · have := h k hk (by omega); omega
  | f + 1, 0, k, hk, _, h2 => by
    show (if on k < 0 then 0 else _) = 0
    by_cases c : on k < 0
    · rw [if_pos c]
    · have := h k hk (by omega); omega
  | f + 1, f' + 1, k, hk, h1, h2 => by
    show (if on k < 0 then 0 else _) = if on k < 0 then 0 else _
    by_cases c : on k < 0
    · rw [if_pos c, if_pos c]
    · rw [if_neg c, if_neg c]
      have h3 := h k hk (by omega)
      have h4 := hr k hk
      rw [dep_st hr h f f' (on k).toNat (by omega) (by omega) (by omega)]
theorem anc_ok {N : Int} {on : Nat → Int} {rk : Nat → Nat} (hr : ∀ k : Nat, (k : Int) < N → on k < N) (h : ∀ k : Nat, (k : Int) < N → 0 ≤ on k → rk (on k).toNat < rk k) : ∀ (f k : Nat), (k : Int) < N → (anc on f k).Nodup ∧ (∀ x ∈ anc on f k, (x : Int) < N ∧ rk x ≤ rk k)
  | 0, k, hk => ⟨List.nodup_cons.mpr ⟨List.not_mem_nil, List.nodup_nil⟩, fun x hx => by rw [List.mem_singleton.mp hx]; exact ⟨hk, Nat.le_refl _⟩⟩
  | f + 1, k, hk => by
    show (if on k < 0 then [k] else k :: anc on f (on k).toNat).Nodup ∧ (∀ x ∈ (if on k < 0 then [k] else k :: anc on f (on k).toNat), (x : Int) < N ∧ rk x ≤ rk k)
    by_cases c : on k < 0
    · rw [if_pos c]
      exact ⟨List.nodup_cons.mpr ⟨List.not_mem_nil, List.nodup_nil⟩, fun x hx => by rw [List.mem_singleton.mp hx]; exact ⟨hk, Nat.le_refl _⟩⟩
    · rw [if_neg c]
      have h3 := h k hk (by omega)
      have h4 := hr k hk
      obtain ⟨i1, i2⟩ := anc_ok hr h f (on k).toNat (by omega)
      refine ⟨List.nodup_cons.mpr ⟨fun hm => ?_, i1⟩, fun x hx => ?_⟩
      · have := (i2 k hm).2; omega
      · rcases List.mem_cons.mp hx with e | e
        · rw [e]; exact ⟨hk, Nat.le_refl _⟩
        · have := i2 x e; exact ⟨this.1, by omega⟩
theorem anc_len {on : Nat → Int} : ∀ (f k : Nat), (anc on f k).length = dep on f k + 1
  | 0, k => rfl
  | f + 1, k => by
    show (if on k < 0 then [k] else k :: anc on f (on k).toNat).length = (if on k < 0 then 0 else dep on f (on k).toNat + 1) + 1
    by_cases c : on k < 0
    · rw [if_pos c, if_pos c]; rfl
    · rw [if_neg c, if_neg c, List.length_cons, anc_len f]
theorem Fo.dp {N : Int} {on : Nat → Int} (h : Fo N on) (hr : ∀ k : Nat, (k : Int) < N → -1 ≤ on k ∧ on k < N) : ∃ dp, DP N on dp := by
  obtain ⟨rk, h⟩ := h
  have hr' : ∀ k : Nat, (k : Int) < N → on k < N := fun k hk => (hr k hk).2
  refine ⟨fun k => dep on (rk k) k, fun k hk => ⟨hr k hk, ?_, fun c => ?_, fun c => ?_⟩⟩
  · have h1 := anc_ok hr' h (rk k) k hk
    have h2 := pigeon N.toNat (anc on (rk k) k) h1.1 (fun x hx => by have := (h1.2 x hx).1; omega)
    rw [anc_len] at h2
    show ((dep on (rk k) k : Nat) : Int) < N
    omega
  · show dep on (rk k) k = 0
    cases e : rk k with
    | zero => rfl
    | succ f => exact if_pos c
  · show dep on (rk k) k = dep on (rk (on k).toNat) (on k).toNat + 1
    have h3 := h k hk c
    cases e : rk k with
    | zero => omega
    | succ f =>
      show (if on k < 0 then 0 else dep on f (on k).toNat + 1) = _
      rw [if_neg (by omega), dep_st hr' h f (rk (on k).toNat) (on k).toNat (by have := hr' k hk; omega) (by omega) (Nat.le_refl _)]
theorem DP.fo {N : Int} {on : Nat → Int} {dp : Nat → Nat} (h : DP N on dp) : Fo N on := ⟨dp, fun k hk c => by have := (h k hk).2.2.2 c; omega⟩
/-- the top; the height; whether r is k or above it -/
def top (on : Nat → Int) : Nat → Nat → Nat
  | 0, k => k
  | f + 1, k => if on k < 0 then k else top on f (on k).toNat
def hgt (on th : Nat → Int) : Nat → Nat → Int
  | 0, _ => 0
  | f + 1, k => if on k < 0 then 0 else th k + hgt on th f (on k).toNat
def abv (on : Nat → Int) (r : Nat) : Nat → Nat → Bool
  | 0, k => k == r
  | f + 1, k => if k = r then true else if on k < 0 then false else abv on r f (on k).toNat
section ForestRows
variable {N : Int} {on th : Nat → Int} {dp : Nat → Nat}
theorem top_st (h : DP N on dp) : ∀ (f f' k : Nat), (k : Int) < N → dp k ≤ f → dp k ≤ f' → top on f k = top on f' k
  | 0, 0, k, _, _, _ => rfl
  | 0, f' + 1, k, hk, h1, _ => by
    show k = if on k < 0 then k else _
    by_cases c : on k < 0
    · rw [if_pos c]
    · have := (h k hk).2.2.2 (by omega); omega
  | f + 1, 0, k, hk, _, h2 => by
    show (if on k < 0 then k else _) = k
    by_cases c : on k < 0
    · rw [if_pos c]
    · have := (h k hk).2.2.2 (by omega); omega
  | f + 1, f' + 1, k, hk, h1, h2 => by
    show (if on k < 0 then k else _) = if on k < 0 then k else _
    by_cases c : on k < 0
    · rw [if_pos c, if_pos c]
    · rw [if_neg c, if_neg c]
      have h3 := (h k hk).2.2.2 (by omega)
      rw [top_st h f f' (on k).toNat (by have := (h k hk).1; omega) (by omega) (by omega)]
theorem hgt_st (h : DP N on dp) : ∀ (f f' k : Nat), (k : Int) < N → dp k ≤ f → dp k ≤ f' → hgt on th f k = hgt on th f' k
  | 0, 0, k, _, _, _ => rfl
  | 0, f' + 1, k, hk, h1, _ => by
    show 0 = if on k < 0 then 0 else _
    by_cases c : on k < 0
    · rw [if_pos c]
    · have := (h k hk).2.2.2 (by omega); omega
  | f + 1, 0, k, hk, _, h2 => by
    show (if on k < 0 then 0 else _) = 0
    by_cases c : on k < 0
    · rw [if_pos c]
    · have := (h k hk).2.2.2 (by omega); omega
  | f + 1, f' + 1, k, hk, h1, h2 => by
    show (if on k < 0 then 0 else _) = if on k < 0 then 0 else _
    by_cases c : on k < 0
    · rw [if_pos c, if_pos c]
    · rw [if_neg c, if_neg c]
      have h3 := (h k hk).2.2.2 (by omega)
      rw [hgt_st h f f' (on k).toNat (by have := (h k hk).1; omega) (by omega) (by omega)]
theorem abv_st (h : DP N on dp) {r : Nat} : ∀ (f f' k : Nat), (k : Int) < N → dp k ≤ f → dp k ≤ f' → abv on r f k = abv on r f' k
  | 0, 0, k, _, _, _ => rfl
  | 0, f' + 1, k, hk, h1, _ => by
    show (k == r) = if k = r then true else if on k < 0 then false else _
    by_cases c0 : k = r
    · rw [if_pos c0, c0]; exact beq_self_eq_true r
    · rw [if_neg c0, beq_false_of_ne c0]
      by_cases c : on k < 0
      · rw [if_pos c]
      · have := (h k hk).2.2.2 (by omega); omega
  | f + 1, 0, k, hk, _, h2 => by
    show (if k = r then true else if on k < 0 then false else _) = (k == r)
    by_cases c0 : k = r
    · rw [if_pos c0, c0]; exact (beq_self_eq_true r).symm
    · rw [if_neg c0, beq_false_of_ne c0]
      by_cases c : on k < 0
      · rw [if_pos c]
      · have := (h k hk).2.2.2 (by omega); omega
  | f + 1, f' + 1, k, hk, h1, h2 => by
    show (if k = r then true else if on k < 0 then false else _) = if k = r then true else if on k < 0 then false else _
    by_cases c0 : k = r
    · rw [if_pos c0, if_pos c0]
    · rw [if_neg c0, if_neg c0]
      by_cases c : on k < 0
      · rw [if_pos c, if_pos c]
      · rw [if_neg c, if_neg c]
        have h3 := (h k hk).2.2.2 (by omega)
        rw [abv_st h f f' (on k).toNat (by have := (h k hk).1; omega) (by omega) (by omega)]
theorem top_eq (h : DP N on dp) (hN : N ≤ 60) {k : Nat} (hk : (k : Int) < N) : top on 60 k = if on k < 0 then k else top on 60 (on k).toNat := by
  show (if on k < 0 then k else top on 59 (on k).toNat) = _
  by_cases c : on k < 0
  · rw [if_pos c, if_pos c]
  · rw [if_neg c, if_neg c]
    have h3 := (h k hk).2.2.2 (by omega)
    have h4 := (h k hk).2.1
    exact top_st h 59 60 _ (by have := (h k hk).1; omega) (by omega) (by omega)
theorem hgt_eq (h : DP N on dp) (hN : N ≤ 60) {k : Nat} (hk : (k : Int) < N) : hgt on th 60 k = if on k < 0 then 0 else th k + hgt on th 60 (on k).toNat := by
  show (if on k < 0 then 0 else th k + hgt on th 59 (on k).toNat) = _
  by_cases c : on k < 0
  · rw [if_pos c, if_pos c]
  · rw [if_neg c, if_neg c]
    have h3 := (h k hk).2.2.2 (by omega)
    have h4 := (h k hk).2.1
    rw [hgt_st h 59 60 (on k).toNat (by have := (h k hk).1; omega) (by omega) (by omega)]
theorem abv_eq (h : DP N on dp) (hN : N ≤ 60) {k r : Nat} (hk : (k : Int) < N) : abv on r 60 k = if k = r then true else if on k < 0 then false else abv on r 60 (on k).toNat := by
  show (if k = r then true else if on k < 0 then false else abv on r 59 (on k).toNat) = _
  by_cases c0 : k = r
  · rw [if_pos c0, if_pos c0]
  · rw [if_neg c0, if_neg c0]
    by_cases c : on k < 0
    · rw [if_pos c, if_pos c]
    · rw [if_neg c, if_neg c]
      have h3 := (h k hk).2.2.2 (by omega)
      have h4 := (h k hk).2.1
      rw [abv_st h 59 60 (on k).toNat (by have := (h k hk).1; omega) (by omega) (by omega)]
theorem top_lt (h : DP N on dp) : ∀ (f k : Nat), (k : Int) < N → (top on f k : Int) < N
  | 0, k, hk => hk
  | f + 1, k, hk => by
    show ((if on k < 0 then k else top on f (on k).toNat : Nat) : Int) < N
    by_cases c : on k < 0
    · rw [if_pos c]; exact hk
    · rw [if_neg c]; exact top_lt h f _ (by have := (h k hk).1; omega)
/-- a part is hung on another's rod, which isn't below it -/
theorem Fo.hang (h : DP N on dp) (hN : N ≤ 60) {x r : Nat} (hx : (x : Int) < N) (hr : (r : Int) < N) (h1 : abv on x 60 r = false) {on' : Nat → Int} (hon : ∀ k, on' k = if k = x then (r : Int) else on k) : Fo N on' := by
  refine ⟨fun k => if abv on x 60 k = true then dp k + dp r + 1 else dp k, fun k hk hc => ?_⟩
  rw [hon] at hc
  simp only [hon]
  by_cases e : k = x
  · subst e
    have hkk : abv on k 60 k = true := by rw [abv_eq h hN hk, if_pos rfl]
    rw [if_pos rfl, if_pos hkk]
    show (if abv on k 60 r = true then _ else dp r) < _
    rw [if_neg (by rw [h1]; decide)]
    omega
  · rw [if_neg e] at hc ⊢
    obtain ⟨q1, q2, q3, q4⟩ := h k hk
    have q5 := q4 hc
    have ek : abv on x 60 k = abv on x 60 (on k).toNat := by rw [abv_eq h hN hk, if_neg e, if_neg (by omega)]
    rw [ek]
    split <;> omega
theorem Fo.less (h : DP N on dp) {on' : Nat → Int} (hon : ∀ k, on' k = on k ∨ on' k < 0) : Fo N on' :=
  ⟨dp, fun k hk hc => by
    rcases hon k with e | e
    · rw [e] at hc ⊢
      have := (h k hk).2.2.2 hc; omega
    · omega⟩
theorem Fo.more (h : DP N on dp) (hN : 0 ≤ N) {on' : Nat → Int} (hon : ∀ k : Nat, (k : Int) < N → on' k = on k) (hl : on' N.toNat < 0) : Fo (N + 1) on' :=
  ⟨dp, fun k hk hc => by
    by_cases e : (k : Int) < N
    · rw [hon k e] at hc ⊢
      have := (h k e).2.2.2 hc; omega
    · have : k = N.toNat := by omega
      subst this; omega⟩
end ForestRows
