/-! WAYS OF THE REFERENCE: the loops -/
section WaysOf2
variable {d n : Nat} {dy : Nat → Shp} {g : Hp} {P : Pst} {N m : Nat}
theorem shl_N {j : Nat} (h : j ≤ 10) : shl3 1 (j : Int) = ((2 ^ j : Nat) : Int) := shl3_n ⟨j, by omega⟩
theorem p2_le {N : Nat} (h : N ≤ 10) : 2 ^ N ≤ 1024 := Nat.pow_le_pow_right (n := 2) (by omega) h
theorem smb {v : Nat → Int} {k : Nat} (hv : ∀ i, i < N → 0 ≤ v i ∧ v i ≤ 1000000) (hN : N ≤ 10) (hk : k ≤ N) (T : Nat) : 0 ≤ sumN (fun i => if T.testBit i = true then v i else 0) k ∧ sumN (fun i => if T.testBit i = true then v i else 0) k ≤ 10000000 := by
  have := sumN_b (f := fun i => if T.testBit i = true then v i else 0) (B := 1000000) k fun y hy => by
    have := hv y (by omega)
    show 0 ≤ (if T.testBit y = true then v y else 0) ∧ (if T.testBit y = true then v y else 0) ≤ 1000000
    split <;> omega
  omega
theorem rs_waysOf {A : Nat} (hn : 100 ≤ n) (hN : N ≤ 10) (hm : m ≤ 8) (hA : A < 2 ^ N) (h42 : g 53 42 = (N : Int)) (h41 : g 53 41 = (m : Int)) (hv : ∀ i, i < N → 0 ≤ g 89 i ∧ g 89 i ≤ 1000000)
    (h : ∀ G : Hp, lwW g G → P (some (I_ (Rr N (g 89) (g 88) m m A))) n (W0 dy) G) : Runs miX12_waysOf (d + 1) [.ref 53, I_ (A : Int)] n (W0 dy) g P := by
  have hp2 := p2_le hN
  have up : ∀ (G : Hp) (i k : Nat) (x : Int), lwW g G → (i = 94 ∨ i = 95) → lwW g (up2 G i k x) := fun G i k x hG hi j q h1 h2 => by
    rw [up2_i (by omega)]; exact hG j q h1 h2
  have f42 : ∀ G : Hp, lwW g G → G 53 42 = (N : Int) := fun G hG => (hG 53 42 (by decide) (by decide)).trans h42
  have f41 : ∀ G : Hp, lwW g G → G 53 41 = (m : Int) := fun G hG => (hG 53 41 (by decide) (by decide)).trans h41
  have f89 : ∀ G : Hp, lwW g G → G 89 = g 89 := fun G hG => funext fun q => hG 89 q (by decide) (by decide)
  have f88 : ∀ G : Hp, lwW g G → G 88 = g 88 := fun G hG => funext fun q => hG 88 q (by decide) (by decide)
  have shN := shl_N hN
  -- what is left to sum for one set
  have inner : ∀ (e S : Nat), e < m → S < 2 ^ N → sb S A → ∀ (G : Hp), lwW g G → (∀ T, T < 2 ^ N → G 95 T = sm N (g 89) T) → (∀ T, T < 2 ^ N → sb T A → G 94 (1024 * (e + 1) + T) = Rr N (g 89) (g 88) m (m - (e + 1)) T) →
      (∀ G' : Hp, G' = up2 G 94 (1024 * e + S) (Rr N (g 89) (g 88) m (m - e) S) → V miX12_waysOf (d + 1) 106 [(0, .ref 53), (1, I_ (A : Int)), (2, I_ (e : Int)), (3, I_ ((S : Int) + 1))] [] n (W0 dy) G' 0 0 P) →
      ∀ (f s : Nat), s ≤ f → s < 2 ^ N → sb s S → V miX12_waysOf (d + 1) 132 [(0, .ref 53), (1, I_ (A : Int)), (2, I_ (e : Int)), (3, I_ (S : Int)), (4, I_ (tlS N m (m - (e + 1)) (g 89) (g 88) e S s)), (5, I_ (s : Int))] [] n (W0 dy) G 0 0 P := by
    intro e S he hS hSA G hG h95 h94 hgo
    have er : e = m - 1 - (m - (e + 1)) := by omega
    have em : m - e = (m - (e + 1)) + 1 := by omega
    have e88 : G 88 e = g 88 e := by rw [f88 G hG]
    intro f
    induction f with
    | zero =>
      intro s hf hs hsb
      have e0 : s = 0 := by omega
      subst e0
      have hb := tlS_le (N := N) (m := m) (r := m - (e + 1)) (v := g 89) (w := g 88) (e := e) (S := S) (s := 0) er
      have hR := Rr_b (N := N) (v := g 89) (w := g 88) (m := m) (r := m - e) (S := S) hN (by omega) hS
      have hz := tlS_zero (N := N) (m := m) (r := m - (e + 1)) (v := g 89) (w := g 88) (e := e) (S := S) er
      rw [← em] at hb hz
      generalize tlS N m (m - (e + 1)) (g 89) (g 88) e S 0 = x at hb hz
      refine bX12_waysOf_132 hn ⟨by decide, fun _ => ⟨⟨by omega, by omega⟩, fun q => ⟨⟨by omega, by omega⟩, ⟨by omega, by omega⟩, hgo _ ?_⟩, fun q => ⟨⟨by omega, by omega⟩, fun y ey => ⟨⟨by omega, by omega⟩, ?_⟩⟩⟩, fun q => absurd q (by decide)⟩
      · have q' : g 88 e ≠ 0 := by rw [← e88]; exact q
        rw [iv_f q', Int.add_zero] at hz
        rw [hz, show (1024 * (e : Int) + (S : Int)).toNat = 1024 * e + S by omega]
      · have q' : g 88 e = 0 := by rw [← e88]; exact q
        rw [iv_t q', ← h94 S hS hSA] at hz
        rw [show (1024 * ((e : Int) + 1) + (S : Int)).toNat = 1024 * (e + 1) + S by omega] at ey
        rw [← ey] at hz
        refine ⟨⟨by omega, by omega⟩, hgo _ ?_⟩
        rw [hz, show (1024 * (e : Int) + (S : Int)).toNat = 1024 * e + S by omega]
    | succ f ih =>
      intro s hf hs hsb
      by_cases s0 : s = 0
      · exact ih s (by omega) hs hsb
      have hst := tlS_step (N := N) (m := m) (r := m - (e + 1)) (v := g 89) (w := g 88) (e := e) (S := S) (s := s) hs (by omega) hsb
      have hle : (s - 1) &&& S ≤ s - 1 := Nat.and_le_left
      have nx := ih ((s - 1) &&& S) (by omega) (by omega) (sb_andr _ _)
      have ea : and3 ((s : Int) - 1) (S : Int) = (((s - 1) &&& S : Nat) : Int) := by
        rw [show (s : Int) - 1 = ((s - 1 : Nat) : Int) by omega]
        exact and3_n (by omega)
      have ex : xor3 (S : Int) (s : Int) = ((S ^^^ s : Nat) : Int) := xor3_n (by omega) (by omega)
      have hxl : S ^^^ s < 2 ^ N := xr_lt hS hs
      have hxs : sb (S ^^^ s) A := fun i hi => hSA i (sb_x hsb i hi)
      have e94 := h94 (S ^^^ s) hxl hxs
      have hR := Rr_b (N := N) (v := g 89) (w := g 88) (m := m) (r := m - (e + 1)) (S := S ^^^ s) hN (by omega) hxl
      have hb := tlS_le (N := N) (m := m) (r := m - (e + 1)) (v := g 89) (w := g 88) (e := e) (S := S) (s := s) er
      have skip : iv (sm N (g 89) s = g 88 e ∧ fsO N (g 89) s S) (Rr N (g 89) (g 88) m (m - (e + 1)) (S ^^^ s)) = 0 → V miX12_waysOf (d + 1) 132 [(0, .ref 53), (1, I_ (A : Int)), (2, I_ (e : Int)), (3, I_ (S : Int)), (4, I_ (tlS N m (m - (e + 1)) (g 89) (g 88) e S s)), (5, I_ (and3 ((s : Int) - 1) (S : Int)))] [] n (W0 dy) G 0 0 P := fun z => by
        rw [z, Int.add_zero] at hst
        rw [ea, ← hst]; exact nx
      have ei : (1024 * ((e : Int) + 1) + xor3 (S : Int) (s : Int)).toNat = 1024 * (e + 1) + (S ^^^ s) := by rw [ex]; omega
      have e95 : G 95 ((s : Int)).toNat = sm N (g 89) s := h95 s hs
      refine bX12_waysOf_132 hn ⟨⟨by omega, by omega⟩, fun q => by omega, fun _ => ⟨⟨by omega, by omega⟩, ⟨by omega, by omega⟩, fun q => skip (iv_f fun z => q ?_), fun q => ⟨⟨by rw [ex]; omega, by rw [ex]; omega⟩, ?_⟩⟩⟩
      · rw [e95, z.1]; exact e88.symm
      · have q' : sm N (g 89) s = g 88 e := by rw [← e95, ← e88]; exact q
        rw [ei, e94]
        refine ⟨fun z => skip ?_, fun z => ?_⟩
        · rw [z]
          rcases Classical.em (sm N (g 89) s = g 88 e ∧ fsO N (g 89) s S) with c | c
          · exact iv_t c
          · exact iv_f c
        · refine sp_isFirstOf hn (f42 G hG) hN (by omega) (by omega) (fun c => ?_) (fun c => ?_)
          · rw [f89 G hG] at c
            refine bX12_waysOf_181 hn ⟨by decide, fun _ => ⟨⟨by rw [ex]; omega, by rw [ex]; omega⟩, fun y ey => ?_⟩, fun t => absurd t (by decide)⟩
            rw [ei, e94] at ey
            rw [iv_t ⟨q', c⟩, ← ey] at hst
            rw [ea, ← hst]; exact nx
          · rw [f89 G hG] at c
            exact bX12_waysOf_181 hn ⟨by decide, fun t => absurd rfl t, fun _ => skip (iv_f fun t => c t.2)⟩
  -- one place
  have place : ∀ (e : Nat), e < m → (∀ G : Hp, lwW g G → (∀ T, T < 2 ^ N → G 95 T = sm N (g 89) T) → (∀ T, T < 2 ^ N → sb T A → G 94 (1024 * e + T) = Rr N (g 89) (g 88) m (m - e) T) → V miX12_waysOf (d + 1) 100 [(0, .ref 53), (1, I_ (A : Int)), (2, I_ ((e : Int) + (-1)))] [] n (W0 dy) G 0 0 P) →
      ∀ (f S : Nat) (G : Hp), S + f = 2 ^ N → lwW g G → (∀ T, T < 2 ^ N → G 95 T = sm N (g 89) T) → (∀ T, T < 2 ^ N → sb T A → G 94 (1024 * (e + 1) + T) = Rr N (g 89) (g 88) m (m - (e + 1)) T) → (∀ T, T < S → sb T A → G 94 (1024 * e + T) = Rr N (g 89) (g 88) m (m - e) T) → V miX12_waysOf (d + 1) 106 [(0, .ref 53), (1, I_ (A : Int)), (2, I_ (e : Int)), (3, I_ (S : Int))] [] n (W0 dy) G 0 0 P := by
    intro e he hgo f
    induction f with
    | zero =>
      intro S G hS hG h95 h94 hT
      refine bX12_waysOf_106 hn ⟨⟨by omega, by omega⟩, fun _ => hgo G hG h95 fun T hT' => hT T (by omega), fun q => ?_⟩
      rw [f42 G hG, shN] at q
      omega
    | succ f ih =>
      intro S G hS hG h95 h94 hT
      refine bX12_waysOf_106 hn ⟨⟨by omega, by omega⟩, fun q => ?_, fun _ => ?_⟩
      · rw [f42 G hG, shN] at q; omega
      rw [and3_n (S := S) (T := A) (by omega), show (S : Int) + 1 = ((S + 1 : Nat) : Int) by omega]
      refine ⟨fun q => ?_, fun q => ?_⟩
      · have hsb : sb S A := sb_and.mp (by omega)
        have := inner e S he (by omega) hsb G hG h95 h94 (fun G' eG => ?_) S S (Nat.le_refl _) (by omega) (fun _ hi => hi)
        · rw [tlS_full] at this; exact this
        · subst eG
          rw [show (S : Int) + 1 = ((S + 1 : Nat) : Int) by omega]
          refine ih (S + 1) _ (by omega) (up _ _ _ _ hG (Or.inl rfl)) (fun T hT' => ?_) (fun T hT' hTA => ?_) (fun T hT' hTA => ?_)
          · rw [up2_i (by decide)]; exact h95 T hT'
          · rw [up2_k, if_neg (by omega)]; exact h94 T hT' hTA
          · rw [up2_k]
            by_cases c : T = S
            · rw [if_pos (by omega), c]
            · rw [if_neg (by omega)]; exact hT T (by omega) hTA
      · have hsb : ¬ sb S A := fun z => q (by rw [sb_and.mpr z])
        refine ih (S + 1) G (by omega) hG h95 h94 fun T hT' hTA => ?_
        by_cases c : T = S
        · rw [c] at hTA; exact absurd hTA hsb
        · exact hT T (by omega) hTA
  -- all places, from the last
  have places : ∀ (e : Nat) (G : Hp), e ≤ m → lwW g G → (∀ T, T < 2 ^ N → G 95 T = sm N (g 89) T) → (∀ T, T < 2 ^ N → sb T A → G 94 (1024 * e + T) = Rr N (g 89) (g 88) m (m - e) T) → V miX12_waysOf (d + 1) 100 [(0, .ref 53), (1, I_ (A : Int)), (2, I_ ((e : Int) - 1))] [] n (W0 dy) G 0 0 P := by
    intro e
    induction e with
    | zero =>
      intro G he hG h95 h94
      refine bX12_waysOf_100 hn ⟨by decide, fun _ => ⟨⟨by omega, by omega⟩, ?_⟩, fun q => absurd q (by decide)⟩
      have := h94 A hA (fun _ hi => hi)
      rw [Nat.mul_zero, Nat.zero_add, Nat.sub_zero] at this
      show P (some (I_ (G 94 A))) n (W0 dy) G
      rw [this]
      exact h G hG
    | succ e ih =>
      intro G he hG h95 h94
      rw [show ((e + 1 : Nat) : Int) - 1 = (e : Int) by omega]
      refine bX12_waysOf_100 hn ⟨⟨by omega, by omega⟩, fun q => by omega, fun _ => ?_⟩
      exact place e (by omega) (fun G' hG' h95' h94' => ih G' (by omega) hG' h95' h94') (2 ^ N) 0 G (by omega) hG h95 h94 (fun T hT => by omega)
  -- the sums of all sets
  have sums : ∀ (f S : Nat) (G : Hp), S + f = 2 ^ N → lwW g G → (∀ T, T < S → G 95 T = sm N (g 89) T) → (∀ T, T < S → G 94 (1024 * m + T) = Rr N (g 89) (g 88) m 0 T) → V miX12_waysOf (d + 1) 2 [(0, .ref 53), (1, I_ (A : Int)), (2, I_ (S : Int))] [] n (W0 dy) G 0 0 P := by
    intro f
    induction f with
    | zero =>
      intro S G hS hG h95 h94
      refine bX12_waysOf_2 hn ⟨⟨by omega, by omega⟩, fun _ => ?_, fun q => ?_⟩
      · rw [f41 G hG]
        exact places m G (Nat.le_refl m) hG (fun T hT => h95 T (by omega)) fun T hT _ => by rw [Nat.sub_self]; exact h94 T (by omega)
      · rw [f42 G hG, shN] at q; omega
    | succ f ih =>
      intro S G hS hG h95 h94
      have one : ∀ (r k : Nat) (G' : Hp), k + r = N → lwW g G' → (∀ T, T < S → G' 95 T = sm N (g 89) T) → (∀ T, T < S → G' 94 (1024 * m + T) = Rr N (g 89) (g 88) m 0 T) → G' 95 S = sumN (fun i => if S.testBit i = true then g 89 i else 0) k → V miX12_waysOf (d + 1) 21 [(0, .ref 53), (1, I_ (A : Int)), (2, I_ (S : Int)), (3, I_ (k : Int))] [] n (W0 dy) G' 0 0 P := by
        intro r
        induction r with
        | zero =>
          intro k G' hk hG' k95 k94 kS
          have ek : k = N := by omega
          have fin : ∀ x : Int, x = Rr N (g 89) (g 88) m 0 S → V miX12_waysOf (d + 1) 2 [(0, .ref 53), (1, I_ (A : Int)), (2, I_ ((S : Int) + 1))] [] n (W0 dy) (up2 G' 94 ((1024 * (m : Int) + (S : Int)).toNat) x) 0 0 P := fun x hx => by
            rw [show (S : Int) + 1 = ((S + 1 : Nat) : Int) by omega, show (1024 * (m : Int) + (S : Int)).toNat = 1024 * m + S by omega]
            refine ih (S + 1) _ (by omega) (up _ _ _ _ hG' (Or.inl rfl)) (fun T hT => ?_) fun T hT => ?_
            · rw [up2_i (by decide)]
              by_cases c : T = S
              · rw [c, kS, ek]; rfl
              · exact k95 T (by omega)
            · rw [up2_k]
              by_cases c : T = S
              · rw [if_pos (by omega), c]; exact hx
              · rw [if_neg (by omega)]; exact k94 T (by omega)
          refine bX12_waysOf_21 hn ⟨⟨by omega, by omega⟩, fun _ => ⟨⟨by omega, by omega⟩, ?_⟩, fun q => ?_⟩
          · rw [f41 G' hG']
            refine ⟨fun q => ⟨⟨by omega, by omega⟩, fin 0 ?_⟩, fun q => ⟨⟨by omega, by omega⟩, fin 1 ?_⟩⟩
            · exact (iv_f (p := S = 0) (by omega)).symm
            · exact (iv_t (p := S = 0) (by omega)).symm
          · rw [f42 G' hG'] at q; omega
        | succ r ih2 =>
          intro k G' hk hG' k95 k94 kS
          have hb := smb (v := g 89) (N := N) (k := k) hv hN (by omega) S
          have hvk := hv k (by omega)
          have hsu : sumN (fun i => if S.testBit i = true then g 89 i else 0) (k + 1) = sumN (fun i => if S.testBit i = true then g 89 i else 0) k + (if S.testBit k = true then g 89 k else 0) := rfl
          have nx : ∀ x : Int, x = sumN (fun i => if S.testBit i = true then g 89 i else 0) (k + 1) → V miX12_waysOf (d + 1) 21 [(0, .ref 53), (1, I_ (A : Int)), (2, I_ (S : Int)), (3, I_ ((k : Int) + 1))] [] n (W0 dy) (up2 G' 95 S x) 0 0 P := fun x hx => by
            rw [show (k : Int) + 1 = ((k + 1 : Nat) : Int) by omega]
            refine ih2 (k + 1) _ (by omega) (up _ _ _ _ hG' (Or.inr rfl)) (fun T hT => ?_) (fun T hT => ?_) ?_
            · rw [up2_k, if_neg (by omega)]; exact k95 T hT
            · rw [up2_i (by decide)]; exact k94 T hT
            · rw [up2_k, if_pos rfl]; exact hx
          refine bX12_waysOf_21 hn ⟨⟨by omega, by omega⟩, fun q => ?_, fun _ => ⟨⟨by omega, by omega⟩, ?_⟩⟩
          · rw [f42 G' hG'] at q; omega
          rw [bt_n (S := S) (j := k) (by omega) (by omega)]
          show (_ → i6 (G' 95 S + 0) ∧ V miX12_waysOf (d + 1) 21 _ [] n (W0 dy) (up2 G' 95 S (G' 95 S + 0)) 0 0 P) ∧ (_ → _ ∧ ∀ y : Int, y = G' 95 S + G' 89 k → _ ∧ V miX12_waysOf (d + 1) 21 _ [] n (W0 dy) (up2 G' 95 S y) 0 0 P)
          rw [kS, f89 G' hG']
          refine ⟨fun q => ⟨⟨by omega, by omega⟩, nx _ ?_⟩, fun q => ⟨⟨by omega, by omega⟩, fun y ey => ⟨⟨by omega, by omega⟩, nx _ ?_⟩⟩⟩
          · rw [hsu, if_neg (fun z => q (if_pos z))]
          · have z : S.testBit k = true := by
              cases c : S.testBit k
              · rw [c] at q; exact absurd q (by decide)
              · rfl
            rw [hsu, if_pos z]; exact ey
      refine bX12_waysOf_2 hn ⟨⟨by omega, by omega⟩, fun q => ?_, fun _ => ⟨⟨by omega, by omega⟩, ?_⟩⟩
      · rw [f42 G hG, shN] at q; omega
      · refine one N 0 _ (by omega) (up _ _ _ _ hG (Or.inr rfl)) (fun T hT => ?_) (fun T hT => ?_) ?_
        · rw [show ((S : Int)).toNat = S from rfl, up2_k, if_neg (by omega)]; exact h95 T hT
        · rw [up2_i (by decide)]; exact h94 T hT
        · rw [show ((S : Int)).toNat = S from rfl, up2_k, if_pos rfl]; rfl
  exact wX12_waysOf hn (sums (2 ^ N) 0 g (by omega) (fun _ _ _ _ => rfl) (fun T hT => by omega) (fun T hT => by omega))
end WaysOf2
