/-! FILL OF THE REFERENCE -/
section FillR
variable {d n : Nat} {dy : Nat → Shp} {a g : Hp} {P : Pst}
/-- row 88 holds what is still wanted when the first i numbers lie -/
def WI (N m : Nat) (v w : Nat → Int) (fs : Nat → Nat) (i : Nat) (G : Hp) : Prop := ∀ e, e < m → G 88 e = w e - pl v fs i e
def lvF (g G : Hp) : Prop := ∀ i q, i ≠ 94 → i ≠ 95 → i ≠ 88 → G i q = g i q
theorem lwW.f {g G : Hp} (h : lwW g G) : lvF g G := fun i q h1 h2 _ => h i q h1 h2
theorem lvF.tr {g G H : Hp} (h : lvF g G) (h' : lvF G H) : lvF g H := fun i q h1 h2 h3 => (h' i q h1 h2 h3).trans (h i q h1 h2 h3)
theorem rs_fill_go {N m kk : Nat} {w : Nat → Int} {fs : Nat → Nat} {x1 x2 : Int} (hn : 100 ≤ n) (hN : N ≤ 10) (hm : m ≤ 8) (hk : kk < N) (h42 : g 53 42 = (N : Int)) (h41 : g 53 41 = (m : Int)) (hv : ∀ i, i < N → 0 ≤ g 89 i ∧ g 89 i ≤ 1000000) (hw : ∀ e, e < m → 0 ≤ w e ∧ w e ≤ 10000000) (hM : Mn N (g 89) w m fs)
    (h : ∀ G : Hp, lvF g G → P (some (I_ (fs kk : Int))) n (W0 dy) G) :
    ∀ (r i A : Nat) (x5 : Int) (G : Hp), i + r = kk + 1 → A < 2 ^ N → (∀ j, j < N → A.testBit j = decide (i ≤ j)) → lvF g G → WI N m (g 89) w fs i G → (i = kk + 1 → x5 = (fs kk : Int)) → V miX12_fill (d + 2) 58 [(0, .ref 53), (1, I_ x1), (2, I_ x2), (3, I_ (kk : Int)), (4, I_ (A : Int)), (5, I_ x5), (6, I_ (i : Int))] [] n (W0 dy) G 0 0 P := by
  have f42 : ∀ G : Hp, lvF g G → G 53 42 = (N : Int) := fun G hG => (hG 53 42 (by decide) (by decide) (by decide)).trans h42
  have f41 : ∀ G : Hp, lvF g G → G 53 41 = (m : Int) := fun G hG => (hG 53 41 (by decide) (by decide) (by decide)).trans h41
  have f89 : ∀ G : Hp, lvF g G → G 89 = g 89 := fun G hG => funext fun q => hG 89 q (by decide) (by decide) (by decide)
  have up8 : ∀ (G : Hp) (e : Nat) (x : Int), lvF g G → lvF g (up2 G 88 e x) := fun G e x hG i q h1 h2 h3 => by rw [up2_i h3]; exact hG i q h1 h2 h3
  have hp2 := p2_le hN
  have plb : ∀ i e, i ≤ N → 0 ≤ pl (g 89) fs i e ∧ pl (g 89) fs i e ≤ 10000000 := fun i e hi => by
    have := sumN_b (f := fun j => if fs j = e then g 89 j else 0) (B := 1000000) i fun y hy => by
      have := hv y (by omega)
      show 0 ≤ (if fs y = e then g 89 y else 0) ∧ (if fs y = e then g 89 y else 0) ≤ 1000000
      split <;> omega
    unfold pl
    omega
  intro r
  induction r with
  | zero =>
    intro i A x5 G hi hA hAb hG hWI hx
    refine bX12_fill_58 hn ⟨⟨by omega, by omega⟩, ⟨by omega, by omega⟩, fun _ => ?_, fun q => by omega⟩
    rw [hx (by omega)]; exact h G hG
  | succ r ih =>
    intro i A x5 G hi hA hAb hG hWI hx
    have hp : 2 ^ i < 2 ^ N := Nat.pow_lt_pow_right (by omega) (by omega)
    have ex : xor3 (A : Int) (shl3 1 (i : Int)) = ((A ^^^ 2 ^ i : Nat) : Int) := by
      rw [shl_N (j := i) (by omega)]
      exact xor3_n (by omega) (by omega)
    have hB : A ^^^ 2 ^ i < 2 ^ N := xr_lt hA hp
    have hBb : ∀ j, j < N → (A ^^^ 2 ^ i).testBit j = decide (i < j) := fun j hj => by
      rw [Nat.testBit_xor, hAb j hj, Nat.testBit_two_pow]
      rcases Nat.lt_trichotomy i j with c | c | c
      · rw [decide_eq_true (by omega : i ≤ j), decide_eq_false (by omega : ¬ i = j), decide_eq_true c]; rfl
      · rw [decide_eq_true (by omega : i ≤ j), decide_eq_true c, decide_eq_false (by omega : ¬ i < j)]; rfl
      · rw [decide_eq_false (by omega : ¬ i ≤ j), decide_eq_false (by omega : ¬ i = j), decide_eq_false (by omega : ¬ i < j)]; rfl
    obtain ⟨hfm, hroom⟩ := greedy_room hM (by omega : i < N) (fun j hj => (hv j hj).1) hBb
    generalize A ^^^ 2 ^ i = B at ex hB hBb
    refine bX12_fill_58 hn ⟨⟨by omega, by omega⟩, ⟨by omega, by omega⟩, fun q => by omega, fun _ => ?_⟩
    rw [ex]
    have hvi := hv i (by omega)
    -- the places from the first on, up to that of the first way
    have try' : ∀ (s e : Nat) (G : Hp), e + s = fs i → lvF g G → WI N m (g 89) w fs i G → V miX12_fill (d + 2) 79 [(0, .ref 53), (1, I_ x1), (2, I_ x2), (3, I_ (kk : Int)), (4, I_ (B : Int)), (5, I_ (-1)), (6, I_ (i : Int)), (7, I_ (e : Int))] [] n (W0 dy) G 0 0 P := by
      intro s
      induction s with
      | zero =>
        intro e G he hG hWI
        have ee : e = fs i := by omega
        have w0 := hWI e (by omega)
        have e89 : G 89 i = g 89 i := by rw [f89 G hG]
        refine bX12_fill_79 hn ⟨⟨by omega, by omega⟩, fun q => by rw [f41 G hG] at q; omega, fun _ => ⟨by decide, fun q => absurd q (by decide), fun _ => ⟨⟨by omega, by omega⟩, ⟨by omega, by omega⟩, fun _ y ey => ?_, fun q => ?_⟩⟩⟩
        · have ey' : y = w e - pl (g 89) fs i e - g 89 i := by
            rw [ey]
            show G 88 e - G 89 i = _
            rw [w0, e89]
          have hpb := plb i e (by omega)
          have hwe := hw e (by omega)
          refine ⟨⟨by omega, by omega⟩, ?_⟩
          have hG2 := up8 G e y hG
          have q89 : up2 G 88 e y 89 = g 89 := f89 _ hG2
          have hgr := greedy (w' := up2 G 88 e y 88) hM (by omega : i < N) (by omega : e < m) hm hB hBb (fun x hx => by
            rw [up2_k]
            by_cases c : x = e
            · rw [if_pos c, if_pos c, c]; exact ey'
            · rw [if_neg c, if_neg c, hWI x hx]; omega)
          have hpos : 0 < Rr N (g 89) (up2 G 88 e y 88) m m B := hgr.mpr ⟨fs, hM.1, fun _ _ => rfl, ee.symm⟩
          have hRb := Rr_b (N := N) (v := g 89) (w := up2 G 88 e y 88) (m := m) (r := m) (S := B) hN hm hB
          refine rs_waysOf (N := N) (m := m) hn hN hm hB (f42 _ hG2) (f41 _ hG2) (fun j hj => by show 0 ≤ up2 G 88 e y 89 j ∧ up2 G 88 e y 89 j ≤ 1000000; rw [q89]; exact hv j hj) fun G3 hG3 => ?_
          have hG3 : lwW (up2 G 88 e y) G3 := hG3
          show V miX12_fill (d + 1 + 1) 137 [(0, .ref 53), (1, I_ x1), (2, I_ x2), (3, I_ (kk : Int)), (4, I_ (B : Int)), (5, I_ (-1)), (6, I_ (i : Int)), (7, I_ (e : Int))] [I_ (Rr N (up2 G 88 e y 89) (up2 G 88 e y 88) m m B)] n (W0 dy) G3 0 0 P
          rw [q89]
          refine bX12_fill_137 hn ⟨⟨by omega, by omega⟩, fun q => by omega, fun _ => ?_⟩
          have hG4 : lvF g G3 := hG2.tr hG3.f
          have hWI3 : WI N m (g 89) w fs (i + 1) G3 := fun x hx => by
            have : pl (g 89) fs (i + 1) x = pl (g 89) fs i x + (if fs i = x then g 89 i else 0) := rfl
            rw [hG3 88 x (by decide) (by decide), up2_k, this]
            by_cases c : x = e
            · rw [if_pos c, if_pos (by omega), c, ey']; omega
            · rw [if_neg c, if_neg (by omega), hWI x hx]; omega
          have fin := ih (i + 1) B (e : Int) G3 (by omega) hB (fun j hj => by rw [hBb j hj]; exact decide_eq_decide.mpr ⟨fun z => z, fun z => z⟩) hG4 hWI3 (fun z => by rw [show kk = i by omega, ee])
          rw [show ((i + 1 : Nat) : Int) = (i : Int) + 1 by omega] at fin
          refine bX12_fill_79 hn ⟨⟨by omega, by omega⟩, fun _ => fin, fun _ => ⟨⟨by omega, by omega⟩, fun _ => fin, fun q => by omega⟩⟩
        · have q' : G 88 e < G 89 i := q
          rw [w0, e89, ee] at q'
          omega
      | succ s ihs =>
        intro e G he hG hWI
        have w0 := hWI e (by omega)
        have e89 : G 89 i = g 89 i := by rw [f89 G hG]
        have e1 : (e : Int) + 1 = ((e + 1 : Nat) : Int) := by omega
        refine bX12_fill_79 hn ⟨⟨by omega, by omega⟩, fun q => by rw [f41 G hG] at q; omega, fun _ => ⟨by decide, fun q => absurd q (by decide), fun _ => ⟨⟨by omega, by omega⟩, ⟨by omega, by omega⟩, fun _ y ey => ?_, fun _ => ?_⟩⟩⟩
        · have ey' : y = w e - pl (g 89) fs i e - g 89 i := by
            rw [ey]
            show G 88 e - G 89 i = _
            rw [w0, e89]
          have hpb := plb i e (by omega)
          have hwe := hw e (by omega)
          refine ⟨⟨by omega, by omega⟩, ?_⟩
          have hG2 := up8 G e y hG
          have q89 : up2 G 88 e y 89 = g 89 := f89 _ hG2
          have hgr := greedy (w' := up2 G 88 e y 88) hM (by omega : i < N) (by omega : e < m) hm hB hBb (fun x hx => by
            rw [up2_k]
            by_cases c : x = e
            · rw [if_pos c, if_pos c, c]; exact ey'
            · rw [if_neg c, if_neg c, hWI x hx]; omega)
          have hno : ¬ 0 < Rr N (g 89) (up2 G 88 e y 88) m m B := fun z => greedy_least hM (by omega : i < N) hm (by omega : e < fs i) (hgr.mp z)
          have hRb := Rr_b (N := N) (v := g 89) (w := up2 G 88 e y 88) (m := m) (r := m) (S := B) hN hm hB
          refine rs_waysOf (N := N) (m := m) hn hN hm hB (f42 _ hG2) (f41 _ hG2) (fun j hj => by show 0 ≤ up2 G 88 e y 89 j ∧ up2 G 88 e y 89 j ≤ 1000000; rw [q89]; exact hv j hj) fun G3 hG3 => ?_
          have hG3 : lwW (up2 G 88 e y) G3 := hG3
          show V miX12_fill (d + 1 + 1) 137 [(0, .ref 53), (1, I_ x1), (2, I_ x2), (3, I_ (kk : Int)), (4, I_ (B : Int)), (5, I_ (-1)), (6, I_ (i : Int)), (7, I_ (e : Int))] [I_ (Rr N (up2 G 88 e y 89) (up2 G 88 e y 88) m m B)] n (W0 dy) G3 0 0 P
          rw [q89]
          have hG4 : lvF g G3 := hG2.tr hG3.f
          refine bX12_fill_137 hn ⟨⟨by omega, by omega⟩, fun _ => ⟨⟨by omega, by omega⟩, ⟨by omega, by omega⟩, fun y9 ey9 => ?_⟩, fun q => absurd q hno⟩
          have ey9' : y9 = w e - pl (g 89) fs i e := by
            rw [ey9]
            show G3 88 e + G3 89 i = _
            rw [f89 _ hG4, hG3 88 e (by decide) (by decide), up2_k, if_pos rfl, ey']; omega
          refine ⟨⟨by omega, by omega⟩, ?_⟩
          rw [e1]
          refine ihs (e + 1) _ (by omega) (up8 _ _ _ hG4) fun x hx => ?_
          show up2 G3 88 e y9 88 x = _
          rw [up2_k]
          by_cases c : x = e
          · rw [if_pos c, c]; exact ey9'
          · rw [if_neg c, hG3 88 x (by decide) (by decide), up2_k, if_neg c]; exact hWI x hx
        · rw [e1]
          exact ihs (e + 1) G (by omega) hG hWI
    exact try' (fs i) 0 G (by omega) hG hWI
theorem rs_fill {x1 x2 x3 : Int} (hn : 100 ≤ n) (hI : Inv g) (h1 : i3 x1) (h2 : i3 x2) (h3 : i3 x3) (h : ∀ v g' a', opFill (up2 g 53 1 0) x1 x2 x3 = (v, a') → rz g' = rz a' → Kc (up2 g 53 1 0) g' → P (some (I_ v)) n (W0 dy) g') : Runs miX12_fill (d + 4) [.ref 53, I_ x1, I_ x2, I_ x3] n (W0 dy) g P := by
  have hI1 : Inv (up2 g 53 1 0) := hI.cg rz_f1
  refine wX12_fill hn ?_
  generalize (up2 g 53 1 0) = a at h hI1 ⊢
  clear hI
  have hsb := stP_b a x1 x2 x3 1
  have kc0 : ∀ (G : Hp) (x : Int), Kc a G → Kc a (up2 G 53 0 x) := fun G x hk i q hi => by rw [up2_i (by omega)]; exact hk i q hi
  refine rs_parted hn hI1 h1 h2 h3 (Or.inr rfl) (fun g' hl hs => ?_) (fun g' k t N e1 e2 ht eN es hl hN2 hN hvl hk hok g42 g41 g89 hw hw' => ?_)
  · show V miX12_fill (d + 3 + 1) 14 [(0, .ref 53), (1, I_ x1), (2, I_ x2), (3, I_ x3)] [I_ (stP a x1 x2 x3 1), .ref 53] n (W0 dy) g' 0 0 P
    refine bX12_fill_14 hn ⟨⟨by omega, by omega⟩, fun q => by omega, fun _ => ?_⟩
    refine h (-1) _ (up2 a 53 0 (stP a x1 x2 x3 1)) ?_ ?_ (kc0 _ _ hl.kc)
    · unfold opFill; rw [ic_t (Or.inl hs), ic_t hs]
    · rw [rz_f0, rz_f0, hl.rz]
  · subst e1
    subst e2
    -- the place is one of the numbers'
    obtain ⟨kk, e3, hkk⟩ : ∃ kk : Nat, x3 = (kk : Int) ∧ kk < N := by
      have hs4 : ¬ ((1 : Int) ≠ 0 ∧ (x3 < 0 ∨ a 55 t ≤ x3)) := fun z => by
        have e := es
        unfold stP at e
        simp only [Int.toNat_natCast] at e
        rw [ic_f (by omega), ic_f (fun y => y ⟨by omega, hk⟩), ic_f (by omega), ic_t z] at e
        omega
      exact ⟨x3.toNat, by omega, by omega⟩
    subst e3
    show V miX12_fill (d + 3 + 1) 14 [(0, .ref 53), (1, I_ (k : Int)), (2, I_ (t : Int)), (3, I_ (kk : Int))] [I_ 0, .ref 53] n (W0 dy) g' 0 0 P
    refine bX12_fill_14 hn ⟨by decide, fun _ => ?_, fun q => absurd q (by decide)⟩
    obtain ⟨hnn, hn1⟩ := nr_top hI1 hk
    obtain ⟨m, hm⟩ := Int.eq_ofNat_of_zero_le (by omega : 0 ≤ neS a (k : Int))
    have hm8 := hok.2
    rw [g42, shl_N hN, show ((2 ^ N : Nat) : Int) - 1 = ((2 ^ N - 1 : Nat) : Int) by have := p2_pos N; omega]
    have q89 : ∀ i, i < N → up2 g' 53 0 0 89 i = vlV a t i := fun i hi => by rw [up2_i (by decide)]; exact g89 i hi
    have q88 : ∀ e, up2 g' 53 0 0 88 e = g' 88 e := fun e => up2_i (by decide)
    have hv : ∀ i, i < N → 0 ≤ up2 g' 53 0 0 89 i ∧ up2 g' 53 0 0 89 i ≤ 1000000 := fun i hi => by rw [q89 i hi]; have := hvl i hi; unfold vlV; omega
    have o42 : up2 g' 53 0 0 53 42 = (N : Int) := by rw [up2_k, if_neg (by decide)]; exact g42
    have o41 : up2 g' 53 0 0 53 41 = (m : Int) := by rw [up2_k, if_neg (by decide), g41]; exact hm
    have wyE : wyV a k t = Rr N (up2 g' 53 0 0 89) (up2 g' 53 0 0 88) m m (2 ^ N - 1) := by
      unfold wyV
      rw [show (a 55 t).toNat = N by omega, show (neS a (k : Int)).toNat = m by omega]
      rcases Classical.em (whS a 8 (k : Int) (vlA a t N)) with c | c
      · rw [ic_t c]
        exact (Rr_cg q89 (fun e he => (q88 e).trans (hw c e (by omega))) m _ (Nat.le_refl m)).symm
      · rw [ic_f c]
        obtain ⟨e, he, e'⟩ := hw' c
        exact (Rr_neg (e := e) (by omega) (full_lt N) (fun i hi => (hv i hi).1) (by omega) (by rw [q88, e']; decide)).symm
    have rzG : ∀ G : Hp, lvF (up2 g' 53 0 0) G → rz G = rz (up2 a 53 0 0) := fun G hG => by
      have : rz G = rz (up2 g' 53 0 0) := rz_eq fun i q hl => hG i q (by unfold rl at hl; simp at hl; omega) (by unfold rl at hl; simp at hl; omega) (by unfold rl at hl; simp at hl; omega)
      rw [this, rz_f0, rz_f0, hl.rz]
    have kcG : ∀ G : Hp, lvF (up2 g' 53 0 0) G → Kc a G := fun G hG i q hi => (hG i q (by omega) (by omega) (by omega)).trans (kc0 _ _ hl.kc i q hi)
    refine rs_waysOf (N := N) (m := m) hn hN (by omega) (full_lt N) o42 o41 hv fun G hG => ?_
    rw [← wyE]
    have hRb := Rr_b (N := N) (v := up2 g' 53 0 0 89) (w := up2 g' 53 0 0 88) (m := m) (r := m) (S := 2 ^ N - 1) hN (by omega) (full_lt N)
    rw [← wyE] at hRb
    show V miX12_fill (d + 3 + 1) 42 [(0, .ref 53), (1, I_ (k : Int)), (2, I_ (t : Int)), (3, I_ (kk : Int)), (4, I_ ((2 ^ N - 1 : Nat) : Int))] [I_ (wyV a k t)] n (W0 dy) G 0 0 P
    refine bX12_fill_42 hn ⟨⟨by omega, by omega⟩, fun q => ?_, fun q => ?_⟩
    · -- there is a way
      have hpos : 0 < wyV a k t := by omega
      have hc : whS a 8 (k : Int) (vlA a t N) := by
        rcases Classical.em (whS a 8 (k : Int) (vlA a t N)) with c | c
        · exact c
        · exfalso
          have e : wyV a k t = 0 := by
            unfold wyV
            rw [show (a 55 t).toNat = N by omega]
            exact ic_f c
          omega
      have hwe : ∀ e, e < m → up2 g' 53 0 0 88 e = wnt a t N k e := fun e he => (q88 e).trans (hw hc e (by omega))
      have hwb : ∀ e, e < m → 0 ≤ up2 g' 53 0 0 88 e ∧ up2 g' 53 0 0 88 e ≤ 10000000 := fun e he => by
        rw [hwe e he]
        obtain ⟨a0, a1⟩ := vlA_b hvl hN (by omega)
        unfold wnt
        cases z : (toS a 8 (k : Int) (vlA a t N))[e]? with
        | none => show (0 : Int) ≤ 0 ∧ (0 : Int) ≤ 10000000; decide
        | some y =>
          have := toS_b hI1 8 (k : Int) (vlA a t N) hk (fun _ => hok.1) hc (by omega) y (List.mem_of_getElem? z)
          show 0 ≤ y ∧ y ≤ 10000000
          omega
      have hMx : Mn (a 55 t).toNat (vlV a t) (wnt a t (a 55 t).toNat k) (neS a (k : Int)).toNat (fwV a k t) := by
        refine Classical.epsilon_spec (p := fun f => Mn (a 55 t).toNat (vlV a t) (wnt a t (a 55 t).toNat k) (neS a (k : Int)).toNat f) ?_
        rw [show (a 55 t).toNat = N by omega, show (neS a (k : Int)).toNat = m by omega]
        refine Mn_ex (by omega) ?_
        rw [← Rr_cg q89 hwe m _ (Nat.le_refl m), ← wyE]; exact hpos
      rw [show (a 55 t).toNat = N by omega, show (neS a (k : Int)).toNat = m by omega] at hMx
      have hM := Mn_cg (fun i hi => (q89 i hi).symm) (fun e he => (hwe e he).symm) hMx
      refine rs_fill_go (d := d + 2) (w := up2 g' 53 0 0 88) (fs := fwV a k t) hn hN (by omega) hkk o42 o41 hv hwb hM (fun G' hG' => ?_) (kk + 1) 0 (2 ^ N - 1) (-1) G (by omega) (full_lt N) (fun j hj => by rw [tb_full]; exact decide_eq_decide.mpr ⟨fun _ => by omega, fun _ => hj⟩) hG.f (fun e he => ?_) (fun z => by omega)
      · refine h _ G' (up2 a 53 0 0) ?_ (rzG G' hG') (kcG G' hG')
        unfold opFill
        simp only [Int.toNat_natCast]
        rw [es, ic_f (by rintro (z | z); exact absurd z (by decide); omega), ic_f (by decide), ic_f q]
      · rw [hG 88 e (by decide) (by decide)]
        show _ = _ - sumN _ 0
        show _ = _ - (0 : Int)
        omega
    · refine wX12_refuse hn ⟨by decide, ?_⟩
      show V miX12_fill (d + 3 + 1) 51 [(0, .ref 53), (1, I_ (k : Int)), (2, I_ (t : Int)), (3, I_ (kk : Int)), (4, I_ ((2 ^ N - 1 : Nat) : Int))] [I_ (-1)] n (W0 dy) (up2 G 53 0 11) 0 0 P
      refine bX12_fill_51 hn ?_
      refine h (-1) _ (up2 a 53 0 11) ?_ ?_ ?_
      · unfold opFill
        simp only [Int.toNat_natCast]
        rw [es, ic_t (Or.inr q), ic_f (by decide), ic_t q]
      · rw [rz_f0, rz_f0]
        have e := rzG G hG.f
        rw [rz_f0] at e
        rw [e, up2_up]
      · intro i r hi
        rw [up2_i (by omega)]
        exact kcG G hG.f i r hi
end FillR
