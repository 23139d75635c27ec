/-! A ROW FOR System.arraycopy between long[] -/
def cpG (g : Hp) (a s c t m : Nat) : Hp := fun i q => if i = c ∧ (t ≤ q ∧ q < t + m) then g a (s + (q - t)) else g i q
theorem cpG_i {g : Hp} {a s c t m i q : Nat} (h : i ≠ c) : cpG g a s c t m i q = g i q := if_neg fun z => h z.1
theorem Pic.setG {D : va_G} {dA : Nat → ClassId} {b n : Nat} {S : Nat → Shp} {g g' : Hp} {H H' : Heap} (h : Pic D dA b n S g H) {a : Nat} (ha : 0 < a ∧ a < n) (hz : H'.size = H.size) (hk : ∀ q, q ≠ b + a → H'[q]? = H[q]?) (hg : ∀ i q, i ≠ a → g' i q = g i q) (hc : cel D dA b S g' a H') (hr : ∀ q, rg (fc (S a).1 q) (g' a q)) : Pic D dA b n S g' H' := by
  refine ⟨hz.trans h.1, fun i h0 h1 => ?_, fun i k h0 h1 => ?_, ?_⟩
  · by_cases e : i = a
    · subst e; exact hc
    · have hu : ∀ k, g' i k = g i k := fun k => hg i k e
      have hgv : ∀ k, gv S g' i k = gv S g i k := fun k => by unfold gv; rw [hu k]
      rcases h.2.1 i h0 h1 with q | q
      · refine Or.inl ⟨q.1, (q.2.kept (hk (b + i) (by omega))).to (fun k _ => by rw [hgv k])⟩
      · refine Or.inr ⟨q.1, fun r => ?_⟩
        rw [hk (b + i) (by omega), q.2 r]
        simp only [hu]
  · by_cases e : i = a
    · rw [e]; exact hr k
    · rw [hg i k e]; exact h.2.2.1 i k h0 h1
  · have hu : ∀ k, g' 0 k = g 0 k := fun k => hg 0 k (by omega)
    obtain ⟨s1, s2, s3, s4⟩ := h.2.2.2
    unfold Scr
    simp only [hu]
    exact ⟨s1, by rw [hk _ (by omega)]; exact s2, s3, s4⟩
theorem clampI {x : Int} (h : 0 ≤ x ∧ x ≤ 100000) : ¬ Int32.ofInt x < 0 ∧ (Int32.ofInt x).toNatClampNeg = x.toNat ∧ (Int32.ofInt x).toInt = x := by
  obtain ⟨q, rfl⟩ : ∃ q : Nat, x = (q : Int) := ⟨x.toNat, by omega⟩
  have e : Int32.ofInt (q : Int) = nI q := Int32.ofInt_eq_ofNat
  have hx : i3 (q : Int) := ⟨by omega, by omega⟩
  refine ⟨fun w => ?_, by rw [e, nI_clamp (by omega)]; rfl, Int32.toInt_ofInt_of_le hx.1 (by have := hx.2; omega)⟩
  have := (i3_lt hx i3_0).mp w
  omega
section ACopy
variable {M : MI} {d pc : Nat} {L : List (Nat × Value)} {st : List Value} {n : Nat} {S : Nat → Shp} {g : Hp} {k z : Nat} {P : Pst}
set_option maxHeartbeats 2000000 in
theorem v_acopy {a c N N2 idx : Nat} {x y w : Int} (j : Nat) (hd : M.2.2.2[j]? = some (pc, .invokestatic idx, 3)) (hl : Cond.methodLink M.1.2.1 idx arraycopyName ∈ tbG ∧ Cond.native arraycopyName ∈ tbG ∧ Cond.static arraycopyName ∈ tbG ∧ Cond.initialized "java/lang/System" ∈ tbG) (hw : wds st = true) (ha : 0 < a ∧ a < n) (hc : 0 < c ∧ c < n) (hs : (S a).1 = 14) (hN : (S a).2.1 = N) (hs2 : (S c).1 = 14) (hNc : (S c).2.1 = N2) (hN2 : N ≤ 100000 ∧ N2 ≤ 100000) (hx : 0 ≤ x) (hy : 0 ≤ y) (hw0 : 0 ≤ w) (h1 : x + w ≤ (N : Int)) (h2 : y + w ≤ (N2 : Int)) (h : V M (d + 1) (pc + 3) L st n S (cpG g a x.toNat c y.toNat w.toNat) k z P) : V M (d + 1) pc L (I_ w :: I_ y :: .ref c :: I_ x :: .ref a :: st) n S g k z P := by
  intro p l e R s m args below meth cc b D dA Q C hq H locs ls hls hP hS
  have hA := hP.arr ha hs (by decide)
  have hB := hP.arr hc hs2 (by decide)
  rw [hN] at hA
  rw [hNc] at hB
  obtain ⟨x1, x2, x3⟩ := clampI (x := x) ⟨hx, by omega⟩
  obtain ⟨y1, y2, y3⟩ := clampI (x := y) ⟨hy, by omega⟩
  obtain ⟨w1, w2, w3⟩ := clampI (x := w) ⟨hw0, by omega⟩
  obtain ⟨a', rfl⟩ : ∃ a', a = a' + 1 := ⟨a - 1, by omega⟩
  obtain ⟨c', rfl⟩ : ∃ c', c = c' + 1 := ⟨c - 1, by omega⟩
  have hA' : H[b + (a' + 1)]? = some (arrV (dA 14) N (fun j => .long (Int64.ofInt (g (a' + 1) j)))) := hA
  have hB' : H[b + (c' + 1)]? = some (arrV (dA 14) N2 (fun j => .long (Int64.ofInt (g (c' + 1) j)))) := hB
  intro T hT X
  obtain ⟨-, k0, hk0, cm0, hkk0⟩ := (C.2.2.2.2.2.1.1.2 2 _ rfl).1 N (fun j => .long (Int64.ofInt (g (a' + 1) j)))
  obtain ⟨-, k1, hk1, cm1, hkk1⟩ := (C.2.2.2.2.2.1.1.2 2 _ rfl).1 N2 (fun j => .long (Int64.ofInt (g (c' + 1) j)))
  obtain ⟨vm', X', step⟩ := X.arraycopy C.1 C.2.2.2.1 (C.2.2.2.2.1 _ hl.1) (C.2.2.2.2.1 _ hl.2.1) (C.2.2.2.2.1 _ hl.2.2.1) (C.2.2.2.2.1 _ hl.2.2.2) (src := b + (a' + 1)) (dst := b + (c' + 1)) (cs := arrV (dA 14) N (fun j => .long (Int64.ofInt (g (a' + 1) j)))) (cd := arrV (dA 14) N2 (fun j => .long (Int64.ofInt (g (c' + 1) j)))) (srcPos := Int32.ofInt x) (destPos := Int32.ofInt y) (n := Int32.ofInt w) (by rw [hT]; exact hA') (by rw [hT]; exact hB')
    (fun _ h => by cases h) (fun _ h => by cases h) (fun h => by cases h) (fun h => by cases h) hk0 hk1 hkk0 hkk1 rfl x1 y1 w1
    (by rw [x3, w3, arrV_size]; omega)
    (by rw [y3, w3, arrV_size]; omega)
    (fun vm₁ _ i hi => by
      have e : (arrV (dA 14) N (fun j => .long (Int64.ofInt (g (a' + 1) j)))).slots.getD ((Int32.ofInt x).toNatClampNeg + i) .null = .long (Int64.ofInt (g (a' + 1) ((Int32.ofInt x).toNatClampNeg + i))) := by
        rw [w2] at hi
        rw [Array.getD_eq_getD_getElem?, arrV_read _ _ (by rw [x2]; omega)]
        rfl
      refine ⟨?_, ?_⟩
      · rw [e]; rfl
      · rw [e]; exact trivial)
    (g := F0 m pc ls ((I_ w :: I_ y :: .ref (c' + 1) :: I_ x :: .ref (a' + 1) :: st).map (cv b))) rfl (by show ls.size = _; rw [hls.1, C.2.2.1]) (rest := st.map (cv b)) rfl (by rw [C.2.1]; exact C.dec hd) (by have := C.2.2.2.2.2.2.2.2.1.1; omega) (by have q1 := wds_le (b := b) hw; have q2 := C.2.2.2.2.2.2.2.2.1.2.1; show 2 * 0 + _ + (7 + 11) ≤ _; omega)
  have e1 : copied (arrV (dA 14) N (fun j => .long (Int64.ofInt (g (a' + 1) j)))) (arrV (dA 14) N2 (fun j => .long (Int64.ofInt (g (c' + 1) j)))) (Int32.ofInt x) (Int32.ofInt y) (Int32.ofInt w) = arrV (dA 14) N2 (fun j => .long (Int64.ofInt (cpG g (a' + 1) x.toNat (c' + 1) y.toNat w.toNat (c' + 1) j))) := by
    refine (va_copied (fun z : Int => Value.long (Int64.ofInt z)) (dA 14) (dA 14) (fun j => g (a' + 1) j) (fun j => g (c' + 1) j) (n0 := N) (n1 := N2) (by rw [x2, w2]; omega)).trans ?_
    refine congrArg (arrV (dA 14) N2) (funext fun j => ?_)
    unfold va_cpy cpG
    rw [x2, y2, w2]
    by_cases q : y.toNat ≤ j ∧ j < y.toNat + w.toNat
    · rw [if_pos q, if_pos ⟨rfl, q⟩]
    · rw [if_neg q, if_neg fun z => q z.2]
  rw [e1] at X' step
  have hl' : b + (c' + 1) < H.size := (Array.getElem?_eq_some_iff.mp hB').1
  have hheap : ((T.setVm vm').setCell (b + (c' + 1)) (arrV (dA 14) N2 (fun j => .long (Int64.ofInt (cpG g (a' + 1) x.toNat (c' + 1) y.toNat w.toNat (c' + 1) j))))).heap = H.setIfInBounds (b + (c' + 1)) (arrV (dA 14) N2 (fun j => .long (Int64.ofInt (cpG g (a' + 1) x.toNat (c' + 1) y.toNat w.toNat (c' + 1) j)))) := by rw [← hT]; rfl
  have oq : ∀ q : Nat, q ≠ b + (c' + 1) → (H.setIfInBounds (b + (c' + 1)) (arrV (dA 14) N2 (fun j => .long (Int64.ofInt (cpG g (a' + 1) x.toNat (c' + 1) y.toNat w.toNat (c' + 1) j)))))[q]? = H[q]? := fun q hq => by simp [Array.getElem?_setIfInBounds, Ne.symm hq]
  have hsz : (H.setIfInBounds (b + (c' + 1)) (arrV (dA 14) N2 (fun j => .long (Int64.ofInt (cpG g (a' + 1) x.toNat (c' + 1) y.toNat w.toNat (c' + 1) j))))).size = H.size := by simp
  have rA : ∀ q, i6 (g (a' + 1) q) := fun q => by
    have := hP.2.2.1 (a' + 1) q ha.1 ha.2
    rw [hs] at this; exact this
  have rC : ∀ q, i6 (g (c' + 1) q) := fun q => by
    have := hP.2.2.1 (c' + 1) q hc.1 hc.2
    rw [hs2] at this; exact this
  obtain ⟨t, a1, b1⟩ := h p l e R s m args below meth cc b D dA Q C hq _ (locs ++ _) ls hls (hP.setG hc hsz oq (fun i q hi => cpG_i hi) (Or.inr ⟨by rw [hs2]; decide, fun _ => by
      rw [hs2, hNc]
      show (H.setIfInBounds (b + (c' + 1)) _)[b + (c' + 1)]? = some _
      simp [Array.getElem?_setIfInBounds, hl']
      rfl⟩) (fun q => by
      rw [hs2]
      show i6 _
      unfold cpG
      split
      · exact rA _
      · exact rC _)) ⟨by rw [hsz]; exact hS.1, fun q g1 g2 => by
      rw [oq q (fun e => g2 (by rw [e]; show b < b + (c' + 1); omega))]
      exact hS.2.1 q g1 g2, fun q hq => by
      rcases List.mem_append.mp hq with h | h
      · exact hS.2.2 q h
      · obtain ⟨z, -, hz⟩ := List.mem_map.mp h
        rw [← hz]
        show b < b + (c' + 1)
        omega⟩ _ hheap X'
  exact ⟨t, step t a1, b1⟩
end ACopy
