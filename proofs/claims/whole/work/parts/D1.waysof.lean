/-! WAYS OF THE REFERENCE: the count -/
theorem an_2 {T U b c : Nat} (hb : b < 2) (hc : c < 2) : (2 * T + b) &&& (2 * U + c) = 2 * (T &&& U) + (if b = 1 ∧ c = 1 then 1 else 0) := by
  refine Nat.eq_of_testBit_eq fun i => ?_
  rw [Nat.testBit_and]
  have h2 : (if b = 1 ∧ c = 1 then 1 else 0) < 2 := by split <;> omega
  cases i with
  | zero =>
    rw [tb_20 _ _ hb, tb_20 _ _ hc, tb_20 _ _ h2]
    rcases (by omega : b = 0 ∨ b = 1) with e | e <;> rcases (by omega : c = 0 ∨ c = 1) with e' | e' <;> subst e <;> subst e' <;> decide
  | succ i => rw [tb_2 _ _ _ hb, tb_2 _ _ _ hc, tb_2 _ _ _ h2, Nat.testBit_and]
theorem sub_next : ∀ (N s S t : Nat), s < 2 ^ N → sb s S → 0 < s → sb t S → t < s → t ≤ (s - 1) &&& S
  | 0, s, S, t, h, _, h0, _, _ => by
    have : s < 1 := h
    omega
  | N + 1, s, S, t, h, hs, h0, ht, hlt => by
    have h' : s < 2 ^ N * 2 := h
    have hs' := sb_2 (T := s / 2) (U := S / 2) (b := s % 2) (c := S % 2) (by omega) (by omega)
    have ht' := sb_2 (T := t / 2) (U := S / 2) (b := t % 2) (c := S % 2) (by omega) (by omega)
    rw [show 2 * (s / 2) + s % 2 = s by omega, show 2 * (S / 2) + S % 2 = S by omega] at hs'
    rw [show 2 * (t / 2) + t % 2 = t by omega, show 2 * (S / 2) + S % 2 = S by omega] at ht'
    obtain ⟨a1, a2⟩ := hs'.mp hs
    obtain ⟨b1, b2⟩ := ht'.mp ht
    by_cases c : s % 2 = 1
    · have e := an_2 (T := s / 2) (U := S / 2) (b := 0) (c := S % 2) (by omega) (by omega)
      rw [show 2 * (s / 2) + 0 = s - 1 by omega, show 2 * (S / 2) + S % 2 = S by omega, sb_and.mpr a1, if_neg (by omega)] at e
      omega
    · have e := an_2 (T := s / 2 - 1) (U := S / 2) (b := 1) (c := S % 2) (by omega) (by omega)
      rw [show 2 * (s / 2 - 1) + 1 = s - 1 by omega, show 2 * (S / 2) + S % 2 = S by omega] at e
      have ih := sub_next N (s / 2) (S / 2) (t / 2) (by omega) a1 (by omega) b1 (by omega)
      rw [e]
      by_cases q : S % 2 = 1
      · rw [if_pos ⟨rfl, q⟩]; omega
      · rw [if_neg (fun z => q z.2)]; omega
theorem sb_le {t S : Nat} (h : sb t S) : t ≤ S := by
  rw [← sb_and.mpr h]; exact Nat.and_le_right
theorem sb_andr (s S : Nat) : sb (s &&& S) S := fun i hi => by
  rw [Nat.testBit_and, Bool.and_eq_true] at hi
  exact hi.2
def lwW (g G : Hp) : Prop := ∀ i q, i ≠ 94 → i ≠ 95 → G i q = g i q
section WaysOf
variable {d n : Nat} {dy : Nat → Shp} {g : Hp} {P : Pst} {N m : Nat}
theorem sp_isFirstOf {t S : Nat} (hn : 100 ≤ n) (h42 : g 53 42 = (N : Int)) (hN : N ≤ 10) (ht : t < 1024) (hS : S < 1024) (h1 : fsO N (g 89) t S → P (some (I_ 1)) n (W0 dy) g) (h0 : ¬ fsO N (g 89) t S → P (some (I_ 0)) n (W0 dy) g) : Runs miX12_isFirstOf d [.ref 53, I_ (t : Int), I_ (S : Int)] n (W0 dy) g P := by
  have inner : ∀ (k : Nat), k < N → t.testBit k = true → (V miX12_isFirstOf d 2 [(0, .ref 53), (1, I_ (t : Int)), (2, I_ (S : Int)), (3, I_ ((k : Int) + 1))] [] n (W0 dy) g 0 0 P ∨ ∃ i, i < k ∧ g 89 i = g 89 k ∧ S.testBit i = true ∧ ¬ t.testBit i = true) → ∀ (r i : Nat), i + r = k → (∀ i', i' < i → g 89 i' = g 89 k → S.testBit i' = true → t.testBit i' = true) → ((∀ i', i' < k → g 89 i' = g 89 k → S.testBit i' = true → t.testBit i' = true) → V miX12_isFirstOf d 2 [(0, .ref 53), (1, I_ (t : Int)), (2, I_ (S : Int)), (3, I_ ((k : Int) + 1))] [] n (W0 dy) g 0 0 P) → V miX12_isFirstOf d 24 [(0, .ref 53), (1, I_ (t : Int)), (2, I_ (S : Int)), (3, I_ (k : Int)), (4, I_ (i : Int))] [] n (W0 dy) g 0 0 P := by
    intro k hk htk _ r
    induction r with
    | zero =>
      intro i hi hp hgo
      exact bX12_isFirstOf_24 hn ⟨⟨by omega, by omega⟩, ⟨by omega, by omega⟩, fun _ => hgo fun i' hi' => hp i' (by omega), fun q => by omega⟩
    | succ r ih =>
      intro i hi hp hgo
      have nx : (g 89 i = g 89 k → S.testBit i = true → t.testBit i = true) → V miX12_isFirstOf d 24 [(0, .ref 53), (1, I_ (t : Int)), (2, I_ (S : Int)), (3, I_ (k : Int)), (4, I_ ((i : Int) + 1))] [] n (W0 dy) g 0 0 P := fun hq => by
        rw [show (i : Int) + 1 = ((i + 1 : Nat) : Int) by omega]
        refine ih (i + 1) (by omega) (fun i' hi' => ?_) hgo
        by_cases c : i' = i
        · rw [c]; exact hq
        · exact hp i' (by omega)
      refine bX12_isFirstOf_24 hn ⟨⟨by omega, by omega⟩, ⟨by omega, by omega⟩, fun q => by omega, fun _ => ⟨⟨by omega, by omega⟩, ⟨by omega, by omega⟩, ?_⟩⟩
      rw [bt_n (S := S) (j := i) (by omega) (by omega), bt_n (S := t) (j := i) (by omega) (by omega)]
      show (g 89 i ≠ g 89 k → _) ∧ (g 89 i = g 89 k → _)
      refine ⟨fun q => nx fun z => absurd z q, fun q => ⟨fun q1 => nx fun _ z => absurd (if_pos z) q1, fun q1 => ⟨fun q2 => nx fun _ _ => ?_, fun q2 => ?_⟩⟩⟩
      · cases c : t.testBit i
        · rw [c] at q2; exact absurd rfl q2
        · rfl
      · refine h0 fun z => ?_
        have hSi : S.testBit i = true := by
          cases c : S.testBit i
          · rw [c] at q1; exact absurd q1 (by decide)
          · rfl
        have := z k hk htk i (by omega) q hSi
        rw [this] at q2
        exact absurd q2 (by decide)
  have outer : ∀ (r k : Nat), k + r = N → (∀ k', k' < k → t.testBit k' = true → ∀ i, i < k' → g 89 i = g 89 k' → S.testBit i = true → t.testBit i = true) → V miX12_isFirstOf d 2 [(0, .ref 53), (1, I_ (t : Int)), (2, I_ (S : Int)), (3, I_ (k : Int))] [] n (W0 dy) g 0 0 P := by
    intro r
    induction r with
    | zero =>
      intro k hk hp
      refine bX12_isFirstOf_2 hn ⟨⟨by omega, by omega⟩, fun _ => h1 fun k' hk' => hp k' (by omega), fun q => by omega⟩
    | succ r ih =>
      intro k hk hp
      have nx : (t.testBit k = true → ∀ i, i < k → g 89 i = g 89 k → S.testBit i = true → t.testBit i = true) → V miX12_isFirstOf d 2 [(0, .ref 53), (1, I_ (t : Int)), (2, I_ (S : Int)), (3, I_ ((k : Int) + 1))] [] n (W0 dy) g 0 0 P := fun hq => by
        rw [show (k : Int) + 1 = ((k + 1 : Nat) : Int) by omega]
        refine ih (k + 1) (by omega) fun k' hk' => ?_
        by_cases c : k' = k
        · rw [c]; exact hq
        · exact hp k' (by omega)
      refine bX12_isFirstOf_2 hn ⟨⟨by omega, by omega⟩, fun q => by omega, fun _ => ?_⟩
      rw [bt_n (S := t) (j := k) (by omega) (by omega)]
      refine ⟨fun q => ?_, fun q => nx fun z => ?_⟩
      · have htk : t.testBit k = true := by
          cases c : t.testBit k
          · rw [c] at q; exact absurd rfl q
          · rfl
        refine inner k (by omega) htk ?_ k 0 (by omega) (fun i' hi' => by omega) fun z => nx fun _ => z
        rcases Classical.em (∃ i, i < k ∧ g 89 i = g 89 k ∧ S.testBit i = true ∧ ¬ t.testBit i = true) with c | c
        · exact Or.inr c
        · refine Or.inl (nx fun _ i hi e hS' => ?_)
          rcases Classical.em (t.testBit i = true) with z | z
          · exact z
          · exact absurd ⟨i, hi, e, hS', z⟩ c
      · rw [if_pos z] at q; exact absurd q (by decide)
  exact wX12_isFirstOf hn (outer N 0 (by omega) fun k' hk' => by omega)
/-- what the sets behind `some` bring -/
noncomputable def tlS (N m r : Nat) (v w : Nat → Int) (e S s : Nat) : Int := sumN (fun t => iv (s < t ∧ sb t S ∧ sm N v t = w e ∧ fsO N v t S) (Rr N v w m r (S ^^^ t))) (2 ^ N)
theorem tlS_full {v w : Nat → Int} {r e S : Nat} : tlS N m r v w e S S = 0 := by
  unfold tlS
  rw [sumN_cg (2 ^ N) (h := fun _ => 0) (fun t _ => iv_f fun z => by have := sb_le z.2.1; omega), sumN_zero]
theorem tlS_step {v w : Nat → Int} {r e S s : Nat} (hs : s < 2 ^ N) (h0 : 0 < s) (hsb : sb s S) : tlS N m r v w e S ((s - 1) &&& S) = tlS N m r v w e S s + iv (sm N v s = w e ∧ fsO N v s S) (Rr N v w m r (S ^^^ s)) := by
  unfold tlS
  have h1 := sumN_one (fun t => iv (sm N v t = w e ∧ fsO N v t S) (Rr N v w m r (S ^^^ t))) s (2 ^ N)
  rw [if_pos hs] at h1
  have h1' : sumN (fun t => if t = s then iv (sm N v t = w e ∧ fsO N v t S) (Rr N v w m r (S ^^^ t)) else 0) (2 ^ N) = iv (sm N v s = w e ∧ fsO N v s S) (Rr N v w m r (S ^^^ s)) := h1
  rw [← h1', ← sumN_add]
  refine sumN_cg _ fun t ht => ?_
  show iv ((s - 1) &&& S < t ∧ sb t S ∧ sm N v t = w e ∧ fsO N v t S) (Rr N v w m r (S ^^^ t)) = iv (s < t ∧ sb t S ∧ sm N v t = w e ∧ fsO N v t S) (Rr N v w m r (S ^^^ t)) + (if t = s then iv (sm N v t = w e ∧ fsO N v t S) (Rr N v w m r (S ^^^ t)) else 0)
  have hle : (s - 1) &&& S ≤ s - 1 := Nat.and_le_left
  by_cases c : t = s
  · subst c
    rw [if_pos rfl, iv_f (p := t < t ∧ _) (fun z => by have := z.1; omega), Int.zero_add]
    exact iv_cg ⟨fun z => z.2.2, fun z => ⟨by omega, hsb, z⟩⟩
  · rw [if_neg c, Int.add_zero]
    refine iv_cg ⟨fun z => ⟨?_, z.2⟩, fun z => ⟨by have := z.1; omega, z.2⟩⟩
    rcases Nat.lt_or_ge s t with q | q
    · exact q
    · have := sub_next N s S t hs hsb h0 z.2.1 (by omega)
      have := z.1
      omega
theorem tlS_le {v w : Nat → Int} {r e S s : Nat} (he : e = m - 1 - r) : 0 ≤ tlS N m r v w e S s ∧ tlS N m r v w e S s ≤ Rr N v w m (r + 1) S := by
  constructor
  · exact sumN_nn _ fun t _ => iv_nn (Rr_nn r _)
  · refine sumN_le _ fun t _ => ?_
    show iv (s < t ∧ sb t S ∧ sm N v t = w e ∧ fsO N v t S) (Rr N v w m r (S ^^^ t)) ≤ iv (sb t S ∧ sm N v t = w (m - 1 - r) ∧ fsO N v t S) (Rr N v w m r (S ^^^ t))
    rw [← he]
    rcases Classical.em (s < t ∧ sb t S ∧ sm N v t = w e ∧ fsO N v t S) with c | c
    · rw [iv_t c, iv_t c.2]; exact Int.le_refl _
    · rw [iv_f c]; exact iv_nn (Rr_nn r _)
theorem fsO_0 {v : Nat → Int} {S : Nat} : fsO N v 0 S := fun k _ h => by rw [Nat.zero_testBit] at h; exact absurd h (by decide)
theorem tlS_zero {v w : Nat → Int} {r e S : Nat} (he : e = m - 1 - r) : Rr N v w m (r + 1) S = tlS N m r v w e S 0 + iv (w e = 0) (Rr N v w m r S) := by
  unfold tlS
  have h1 := sumN_one (fun t => iv (w e = 0) (Rr N v w m r S)) 0 (2 ^ N)
  rw [if_pos (p2_pos N)] at h1
  have h1' : sumN (fun t => if t = 0 then iv (w e = 0) (Rr N v w m r S) else 0) (2 ^ N) = iv (w e = 0) (Rr N v w m r S) := h1
  rw [← h1', ← sumN_add]
  refine sumN_cg _ fun t ht => ?_
  show iv (sb t S ∧ sm N v t = w (m - 1 - r) ∧ fsO N v t S) (Rr N v w m r (S ^^^ t)) = iv (0 < t ∧ sb t S ∧ sm N v t = w e ∧ fsO N v t S) (Rr N v w m r (S ^^^ t)) + (if t = 0 then iv (w e = 0) (Rr N v w m r S) else 0)
  rw [← he]
  by_cases c : t = 0
  · subst c
    rw [if_pos rfl, iv_f (p := 0 < 0 ∧ _) (fun z => by have := z.1; omega), Int.zero_add, Nat.xor_zero]
    exact iv_cg ⟨fun z => by rw [← z.2.1, sm_0], fun z => ⟨fun i hi => by rw [Nat.zero_testBit] at hi; exact absurd hi (by decide), by rw [z, sm_0], fsO_0⟩⟩
  · rw [if_neg c, Int.add_zero]
    exact iv_cg ⟨fun z => ⟨by omega, z⟩, fun z => z.2⟩
end WaysOf
