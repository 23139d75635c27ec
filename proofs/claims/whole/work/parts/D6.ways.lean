/-! WAYS AND FILL OF THE REFERENCE -/
section WaysR
variable {N m : Nat} {v v' w w' : Nat → Int}
theorem sm_cg (hv : ∀ i, i < N → v i = v' i) (T : Nat) : sm N v T = sm N v' T := sumN_cg N fun i hi => by rw [hv i hi]
theorem fsO_cg (hv : ∀ i, i < N → v i = v' i) (t S : Nat) : fsO N v t S ↔ fsO N v' t S := by
  unfold fsO
  exact ⟨fun h k hk hb i hi e => h k hk hb i hi (by rw [hv i (by omega), hv k hk]; exact e), fun h k hk hb i hi e => h k hk hb i hi (by rw [← hv i (by omega), ← hv k hk]; exact e)⟩
theorem Rr_cg (hv : ∀ i, i < N → v i = v' i) (hw : ∀ e, e < m → w e = w' e) : ∀ r S, r ≤ m → Rr N v w m r S = Rr N v' w' m r S
  | 0, S, _ => rfl
  | r + 1, S, hr => by
    refine sumN_cg _ fun t _ => ?_
    show iv (sb t S ∧ sm N v t = w (m - 1 - r) ∧ fsO N v t S) (Rr N v w m r (S ^^^ t)) = iv (sb t S ∧ sm N v' t = w' (m - 1 - r) ∧ fsO N v' t S) (Rr N v' w' m r (S ^^^ t))
    rw [Rr_cg hv hw r _ (by omega), sm_cg hv, hw (m - 1 - r) (by omega)]
    exact iv_cg ⟨fun z => ⟨z.1, z.2.1, (fsO_cg hv t S).mp z.2.2⟩, fun z => ⟨z.1, z.2.1, (fsO_cg hv t S).mpr z.2.2⟩⟩
theorem Rr_neg {S e : Nat} (hm : m ≤ 8) (hS : S < 2 ^ N) (hv : ∀ i, i < N → 0 ≤ v i) (he : e < m) (h : w e < 0) : Rr N v w m m S = 0 := by
  rcases Int.lt_or_eq_of_le (Rr_nn (N := N) (v := v) (w := w) (m := m) m S) with c | c
  · obtain ⟨f, _, hf⟩ := (Rr_iff (e := 0) hm (by omega) hS).mp c
    have h1 := hf e (Nat.zero_le e) he
    have h2 := sumN_nn (f := fun i => if S.testBit i = true ∧ f i = e then v i else 0) N (fun j hj => by
      show 0 ≤ if S.testBit j = true ∧ f j = e then v j else 0
      split
      · exact hv j hj
      · exact Int.le_refl 0)
    omega
  · exact c.symm
theorem Mn_cg (hv : ∀ i, i < N → v i = v' i) (hw : ∀ e, e < m → w e = w' e) {f : Nat → Nat} (h : Mn N v w m f) : Mn N v' w' m f := by
  have key : ∀ {v v' w w' : Nat → Int}, (∀ i, i < N → v i = v' i) → (∀ e, e < m → w e = w' e) → ∀ f, As N v w m 0 (2 ^ N - 1) f → As N v' w' m 0 (2 ^ N - 1) f := fun hv hw f h => ⟨h.1, fun e h1 h2 => by
    rw [← hw e h2, ← h.2 e h1 h2]
    exact sumN_cg N fun i hi => by rw [hv i hi]⟩
  exact ⟨key hv hw f h.1, fun f' hf' => h.2 f' (key (fun i hi => (hv i hi).symm) (fun e he => (hw e he).symm) f' hf')⟩
end WaysR
def vlV (a : Hp) (t i : Nat) : Int := a 56 (16 * t + i)
/-- how many ways there are -/
noncomputable def wyV (a : Hp) (k t : Nat) : Int :=
  ic (whS a 8 (k : Int) (vlA a t (a 55 t).toNat)) (Rr (a 55 t).toNat (vlV a t) (wnt a t (a 55 t).toNat k) (neS a (k : Int)).toNat (neS a (k : Int)).toNat (2 ^ (a 55 t).toNat - 1)) 0
/-- the first way -/
noncomputable def fwV (a : Hp) (k t : Nat) : Nat → Nat := Classical.epsilon fun f => Mn (a 55 t).toNat (vlV a t) (wnt a t (a 55 t).toNat k) (neS a (k : Int)).toNat f
noncomputable def opWays (a : Hp) (x1 x2 : Int) : Int × Hp := (ic (0 < stP a x1 x2 0 0) (-1) (wyV a x1.toNat x2.toNat), up2 a 53 0 (stP a x1 x2 0 0))
noncomputable def opFill (a : Hp) (x1 x2 x3 : Int) : Int × Hp := (ic (0 < stP a x1 x2 x3 1 ∨ wyV a x1.toNat x2.toNat = 0) (-1) (fwV a x1.toNat x2.toNat x3.toNat), up2 a 53 0 (ic (0 < stP a x1 x2 x3 1) (stP a x1 x2 x3 1) (ic (wyV a x1.toNat x2.toNat = 0) 11 0)))
section WaysS
variable {d n : Nat} {dy : Nat → Shp} {a g : Hp} {P : Pst}
theorem stP_b (a : Hp) (x1 x2 x3 x4 : Int) : 0 ≤ stP a x1 x2 x3 x4 ∧ stP a x1 x2 x3 x4 ≤ 9 := by
  have key : ∀ (p : Prop) (x y : Int), (0 ≤ x ∧ x ≤ 9) → (0 ≤ y ∧ y ≤ 9) → 0 ≤ ic p x y ∧ ic p x y ≤ 9 := fun p x y hx hy => by
    rcases Classical.em p with c | c
    · rw [ic_t c]; exact hx
    · rw [ic_f c]; exact hy
  unfold stP
  exact key _ _ _ (by decide) (key _ _ _ (by decide) (key _ _ _ (by decide) (key _ _ _ (by decide) (key _ _ _ (by decide) (key _ _ _ (by decide) (key _ _ _ (by decide) (key _ _ _ (by decide) (by decide))))))))
theorem lvP.kc (h : lvP a g) : Kc a g := fun i q hi => h i q (by omega) (by omega)
theorem rs_ways {x1 x2 : Int} (hn : 100 ≤ n) (hI : Inv g) (h1 : i3 x1) (h2 : i3 x2) (h : ∀ v g' a', opWays (up2 g 53 1 0) x1 x2 = (v, a') → rz g' = rz a' → Kc (up2 g 53 1 0) g' → P (some (I_ v)) n (W0 dy) g') : Runs miX12_ways (d + 4) [.ref 53, I_ x1, I_ x2] n (W0 dy) g P := by
  have hI1 : Inv (up2 g 53 1 0) := hI.cg rz_f1
  refine wX12_ways hn ?_
  generalize (up2 g 53 1 0) = a at h hI1 ⊢
  clear hI
  have hsb := stP_b a x1 x2 0 0
  have kc0 : ∀ (G : Hp) (x : Int), Kc a G → Kc a (up2 G 53 0 x) := fun G x hk i q hi => by rw [up2_i (by omega)]; exact hk i q hi
  refine rs_parted hn hI1 h1 h2 (by decide) (Or.inl rfl) (fun g' hl hs => ?_) (fun g' k t N e1 e2 ht eN es hl hN2 hN hvl hk hok g42 g41 g89 hw hw' => ?_)
  · show V miX12_ways (d + 3 + 1) 14 [(0, .ref 53), (1, I_ x1), (2, I_ x2)] [I_ (stP a x1 x2 0 0), .ref 53] n (W0 dy) g' 0 0 P
    refine bX12_ways_14 hn ⟨⟨by omega, by omega⟩, fun q => by omega, fun _ => bX12_ways_40 hn ?_⟩
    refine h (-1) _ (up2 a 53 0 (stP a x1 x2 0 0)) ?_ ?_ (kc0 _ _ hl.kc)
    · unfold opWays; rw [ic_t hs]
    · rw [rz_f0, rz_f0, hl.rz]
  · subst e1
    subst e2
    show V miX12_ways (d + 3 + 1) 14 [(0, .ref 53), (1, I_ (k : Int)), (2, I_ (t : Int))] [I_ 0, .ref 53] n (W0 dy) g' 0 0 P
    refine bX12_ways_14 hn ⟨by decide, fun _ => ?_, fun q => absurd q (by decide)⟩
    obtain ⟨hnn, hn1⟩ := nr_top hI1 hk
    obtain ⟨m, hm⟩ := Int.eq_ofNat_of_zero_le (by omega : 0 ≤ neS a (k : Int))
    have hm8 := hok.2
    rw [g42, shl_N hN, show ((2 ^ N : Nat) : Int) - 1 = ((2 ^ N - 1 : Nat) : Int) by have := p2_pos N; omega]
    have q89 : ∀ i, i < N → up2 g' 53 0 0 89 i = vlV a t i := fun i hi => by rw [up2_i (by decide)]; exact g89 i hi
    have q88 : ∀ e, up2 g' 53 0 0 88 e = g' 88 e := fun e => up2_i (by decide)
    refine rs_waysOf (N := N) (m := m) hn hN (by omega) (full_lt N) (by rw [up2_k, if_neg (by decide)]; exact g42) (by rw [up2_k, if_neg (by decide), g41]; exact hm) (fun i hi => by rw [q89 i hi]; have := hvl i hi; unfold vlV; omega) fun G hG => ?_
    refine bX12_ways_40 hn ?_
    refine h _ G (up2 a 53 0 0) ?_ ?_ ?_
    · unfold opWays
      rw [es, ic_f (by decide)]
      refine Prod.ext ?_ rfl
      show wyV a k t = _
      unfold wyV
      rw [show (a 55 t).toNat = N by omega, show (neS a (k : Int)).toNat = m by omega]
      rcases Classical.em (whS a 8 (k : Int) (vlA a t N)) with c | c
      · rw [ic_t c]
        exact (Rr_cg q89 (fun e he => (q88 e).trans (hw c e (by omega))) m _ (Nat.le_refl m)).symm
      · rw [ic_f c]
        obtain ⟨e, he, e'⟩ := hw' c
        exact (Rr_neg (e := e) (by omega) (full_lt N) (fun i hi => by rw [q89 i hi]; have := hvl i hi; unfold vlV; omega) (by omega) (by rw [q88, e']; decide)).symm
    · have : rz G = rz (up2 g' 53 0 0) := rz_eq fun i q hl => hG i q (by unfold rl at hl; simp at hl; omega) (by unfold rl at hl; simp at hl; omega)
      rw [this, rz_f0, rz_f0, hl.rz]
    · exact fun i q hi => (hG i q (by omega) (by omega)).trans (kc0 _ _ hl.kc i q hi)
end WaysS
