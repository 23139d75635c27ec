/-! SAME: both sides -/
section Same3
variable {d n : Nat} {dy : Nat → Shp} {g a G : Hp} {P : Pst}
theorem LF_cg {a b : Hp} (e : ∀ i, 57 ≤ i → i ≤ 67 → b i = a i) : ∀ f x y : Nat, LF b f x y ↔ LF a f x y
  | 0, _, _ => Iff.rfl
  | f + 1, x, y => by
    have ih := LF_cg e f
    have se : ∀ (th : Nat → Int) (s t : Int), SE (LF b f) th s t ↔ SE (LF a f) th s t := fun th s t => by
      unfold SE
      simp only [ih]
    show LB b (LF b f) x y ↔ LB a (LF a f) x y
    unfold LB rodP T1 T2
    simp only [se]
    rw [e 57 (by decide) (by decide), e 58 (by decide) (by decide), e 59 (by decide) (by decide), e 62 (by decide) (by decide), e 63 (by decide) (by decide), e 64 (by decide) (by decide), e 65 (by decide) (by decide), e 66 (by decide) (by decide), e 67 (by decide) (by decide)]
theorem topI_v (a : Hp) (x1 : Int) : (topI a x1 = 2 ∧ (x1 < 0 ∨ a 53 5 ≤ x1)) ∨ (topI a x1 = 8 ∧ (0 ≤ x1 ∧ x1 < a 53 5) ∧ 0 ≤ a 60 x1.toNat) ∨ (topI a x1 = 0 ∧ (0 ≤ x1 ∧ x1 < a 53 5) ∧ a 60 x1.toNat < 0) := by
  unfold topI
  by_cases c : x1 < 0 ∨ a 53 5 ≤ x1
  · rw [if_pos c]; exact Or.inl ⟨rfl, c⟩
  · rw [if_neg c]
    by_cases c2 : 0 ≤ a 60 x1.toNat
    · rw [if_pos c2]; exact Or.inr (Or.inl ⟨rfl, by omega, c2⟩)
    · rw [if_neg c2]; exact Or.inr (Or.inr ⟨rfl, by omega, by omega⟩)
theorem cs_same {x1 x2 : Int} (hC : Ca n dy g a) (hI : Inv a) (h1 : i3 x1) (h2 : i3 x2) (h : ∀ v a' g', opSame (up2 a 53 0 0) x1 x2 = (v, a') → Ca n dy g' a' → Kr g g' → P (some (I_ v)) n (W0 dy) g') : Runs miX11_same (d + 122) [.ref 1, I_ x1, I_ x2] n (W0 dy) g P := by
  have hn := hC.1
  have hN := hI.1
  have no2 : (x1 < 0 ∨ a 53 5 ≤ x1 ∨ x2 < 0 ∨ a 53 5 ≤ x2) → ∀ r3 r4 : Nat, Runs miX11_none (d + 121) [.ref 1, I_ 2] n (W0 dy) g (fun v n' S' g' => V miX11_same (d + 122) 27 [(0, .ref 1), (1, I_ x1), (2, I_ x2), (3, .ref r3), (4, .ref r4)] (v.toList ++ []) n' S' g' 0 0 P) := fun c r3 r4 => by
    have c' : topI a x1 = 2 ∨ topI a x2 = 2 := by
      rcases topI_v a x1 with z | z | z
      · exact Or.inl z.1
      · rcases topI_v a x2 with w | w | w
        · exact Or.inr w.1
        · omega
        · omega
      · rcases topI_v a x2 with w | w | w
        · exact Or.inr w.1
        · omega
        · omega
    exact wX11_none hn ⟨by decide, bX11_same_27 hn (h _ _ _ (by unfold opSame; exact if_pos c') (hC.st2 0 2) ((Kr.refl g).up (by omega)))⟩
  refine wX11_same hn (cs_partAt hC hI h1 ⟨fun c => bX11_same_5 hn (cs_partAt hC hI h2 ⟨fun _ => bX11_same_11 hn ⟨fun _ => no2 (by omega) _ _, fun q => absurd q (Nat.lt_irrefl 0)⟩, fun _ _ => bX11_same_11 hn ⟨fun _ => no2 (by omega) _ _, fun q => absurd q (Nat.lt_irrefl 0)⟩⟩), fun c1 c2 => ?_⟩)
  obtain ⟨x, rfl⟩ := exN c1
  have hx : (x : Int) < a 53 5 := c2
  have bx := hC.cell hx
  show V miX11_same (d + 122) 5 [(0, .ref 1), (1, I_ (x : Int)), (2, I_ x2)] [.ref (g 3 x).toNat] n (W0 dy) g 0 0 P
  refine bX11_same_5 hn (cs_partAt hC hI h2 ⟨fun c => bX11_same_11 hn ⟨fun q => by omega, fun _ => ⟨fun q => absurd q (Nat.lt_irrefl 0), fun _ => no2 (by omega) _ _⟩⟩, fun c3 c4 => ?_⟩)
  obtain ⟨y, rfl⟩ := exN c3
  have hy : (y : Int) < a 53 5 := c4
  have by' := hC.cell hy
  show V miX11_same (d + 122) 11 [(0, .ref 1), (1, I_ (x : Int)), (2, I_ (y : Int)), (3, .ref (g 3 x).toNat)] [.ref (g 3 y).toNat] n (W0 dy) g 0 0 P
  clear no2
  obtain ⟨ux1, ux2⟩ := above_b hC hI hx
  obtain ⟨uy1, uy2⟩ := above_b hC hI hy
  have vx := topI_v a (x : Int)
  have vy := topI_v a (y : Int)
  have n2 : ¬ (topI (up2 a 53 0 0) (x : Int) = 2 ∨ topI (up2 a 53 0 0) (y : Int) = 2) := fun z => by
    have z : topI a (x : Int) = 2 ∨ topI a (y : Int) = 2 := z
    omega
  have eop : opSame (up2 a 53 0 0) (x : Int) (y : Int) = if 0 < topI (up2 a 53 0 0) (x : Int) ∨ 0 < topI (up2 a 53 0 0) (y : Int) then (-1, up2 (up2 a 53 0 0) 53 0 8) else (bI (LF (up2 a 53 0 0) 60 x y), up2 a 53 0 0) := by
    unfold opSame; exact if_neg n2
  rw [eop] at h
  clear eop n2
  have no8 : (0 ≤ a 60 x ∨ 0 ≤ a 60 y) → Runs miX11_none (d + 121) [.ref 1, I_ 8] n (W0 dy) g (fun v n' S' g' => V miX11_same (d + 122) 49 [(0, .ref 1), (1, I_ (x : Int)), (2, I_ (y : Int)), (3, .ref (g 3 x).toNat), (4, .ref (g 3 y).toNat)] (v.toList ++ []) n' S' g' 0 0 P) := fun c => by
    have c' : 0 < topI (up2 a 53 0 0) (x : Int) ∨ 0 < topI (up2 a 53 0 0) (y : Int) := by
      show 0 < topI a (x : Int) ∨ 0 < topI a (y : Int)
      rcases vx with z | z | z
      · omega
      · omega
      · have z2 : a 60 x < 0 := z.2.2
        rcases vy with w | w | w
        · omega
        · omega
        · have w2 : a 60 y < 0 := w.2.2
          omega
    rw [if_pos c'] at h
    exact wX11_none hn ⟨by decide, bX11_same_49 hn (h _ _ _ rfl (hC.st2 0 8) ((Kr.refl g).up (by omega)))⟩
  refine bX11_same_11 hn ⟨fun q => by omega, fun _ => ⟨fun _ => ⟨(hC.2.2.2.1 x hx).pt (hI.2.2.1 x hx).2, fun q => no8 (Or.inl ?_), fun q => ⟨(hC.2.2.2.1 y hy).pt (hI.2.2.1 y hy).2, fun q2 => ?_, fun q2 => no8 (Or.inr ?_)⟩⟩, fun q => by omega⟩⟩
  · by_cases z : a 60 x < 0
    · rw [ux1 z] at q; exact absurd q (by decide)
    · omega
  · have zx : a 60 x < 0 := by
      by_cases z : a 60 x < 0
      · exact z
      · obtain ⟨-, v2, v3, -⟩ := ux2 (by omega)
        rw [v2] at q; omega
    have zy : a 60 y < 0 := by
      by_cases z : a 60 y < 0
      · exact z
      · obtain ⟨-, v2, v3, -⟩ := uy2 (by omega)
        rw [v2] at q2; omega
    have c' : ¬ (0 < topI (up2 a 53 0 0) (x : Int) ∨ 0 < topI (up2 a 53 0 0) (y : Int)) := fun c => by
      have c : 0 < topI a (x : Int) ∨ 0 < topI a (y : Int) := c
      have zx : a 60 ((x : Nat) : Int).toNat < 0 := zx
      have zy : a 60 ((y : Nat) : Int).toNat < 0 := zy
      omega
    rw [if_neg c'] at h
    have hC0 := hC.st 0
    have hI0 : Inv (up2 a 53 0 0) := hI
    have hK0 : Kr g (up2 g 1 3 0) := (Kr.refl g).up (by omega)
    have hx0 : (x : Int) < up2 a 53 0 0 53 5 := hx
    have hy0 : (y : Int) < up2 a 53 0 0 53 5 := hy
    refine ⟨fun e => ?_, fun ne => ?_⟩
    · have e : x = y := (hC.ne hx hy).mp e
      obtain ⟨dp, hD⟩ := hI0.dp
      have lf := LF_refl hI0 hD 60 x hx0 (by omega)
      rw [← e, bI_t lf] at h
      exact h _ _ _ rfl hC0 hK0
    · show Runs miX11_areAlike (d + 121) [.ref (up2 g 1 3 0 3 x).toNat, .ref (up2 g 1 3 0 3 y).toNat, I_ ((60 : Int) - ((60 : Nat) : Int))] n (W0 dy) (up2 g 1 3 0) _
      refine cs_alike hC0 hI0 60 x y _ (by decide) hx0 hy0 (fun z => ?_) (fun z => ?_)
      · rw [bI_f z] at h
        exact bX11_same_68 hn ⟨by decide, fun _ => h _ _ _ rfl hC0 hK0, fun q => absurd rfl q⟩
      · rw [bI_t z] at h
        exact bX11_same_68 hn ⟨by decide, fun q => absurd q (by decide), fun _ => h _ _ _ rfl hC0 hK0⟩
  · by_cases z : a 60 y < 0
    · rw [uy1 z] at q2; exact absurd q2 (by decide)
    · omega
theorem sp_isSide {s t : Int} (hn : 100 ≤ n) (hI : Inv a) (hz : rz G = rz a) (hs : -1 ≤ s ∧ s < a 53 5) (ht : -1 ≤ t ∧ t < a 53 5) (hl : 0 ≤ s → 0 ≤ t → (G 73 s.toNat = G 73 t.toNat ↔ LF a 60 s.toNat t.toNat)) (h0 : ¬ SE (LF a 60) (a 62) s t → P (some (I_ 0)) n (W0 dy) G) (h1 : SE (LF a 60) (a 62) s t → P (some (I_ 1)) n (W0 dy) G) : Runs miX12_isSide d [.ref 53, I_ s, I_ t] n (W0 dy) G P := by
  have hN := hI.1
  have f62 : G 62 = a 62 := rz_row (i := 62) hz (fun _ => rfl)
  refine wX12_isSide hn ⟨⟨by omega, by omega⟩, fun c => ⟨fun q => by omega, fun _ => ⟨⟨by omega, by omega⟩, fun c2 => h0 fun z => ?_, fun c2 => h1 (Or.inl ⟨c, c2⟩)⟩⟩, fun c => ⟨⟨by omega, by omega⟩, fun c2 => ⟨⟨by omega, by omega⟩, ⟨by omega, by omega⟩, fun q => h0 fun z => ?_, fun q => ?_⟩, fun c2 => ⟨fun _ => h0 fun z => ?_, fun q => by omega⟩⟩⟩
  · rcases z with z | z
    · omega
    · have := z.1; omega
  · rcases z with z | z
    · omega
    · exact q ((hl c c2).mpr z.2.2.2)
  · rw [f62]
    exact ⟨fun q2 => h0 fun z => z.elim (fun z => by omega) (fun z => q2 z.2.2.1), fun q2 => h1 (Or.inr ⟨c, c2, q2, (hl c c2).mp q⟩)⟩
  · rcases z with z | z
    · omega
    · have := z.2.1; omega
theorem sp_isLike {x y : Nat} (hn : 100 ≤ n) (hI : Inv a) (hz : rz G = rz a) (hx : (x : Int) < a 53 5) (hy : (y : Int) < a 53 5) (hl : ∀ s t : Nat, (s : Int) < a 53 5 → (t : Int) < a 53 5 → a 60 s = (x : Int) → a 60 t = (y : Int) → (G 73 s = G 73 t ↔ LF a 60 s t)) (h0 : ¬ LF a 60 x y → P (some (I_ 0)) n (W0 dy) G) (h1 : LF a 60 x y → P (some (I_ 1)) n (W0 dy) G) : Runs miX12_isLike (d + 1) [.ref 53, I_ (x : Int), I_ (y : Int)] n (W0 dy) G P := by
  have hN := hI.1
  have f : ∀ i q, (57 ≤ i ∧ i ≤ 67) → G i q = a i q := fun i q hi => rz_of hz (by
    have c1 : Nat.ble 54 i = true := Nat.ble_eq_true_of_le (by omega)
    have c2 : Nat.ble i 70 = true := Nat.ble_eq_true_of_le (by omega)
    unfold rl; rw [c1, c2]; rfl)
  have leq := LF_eq (x := x) (y := y) hI hx
  have h0 : ¬ LB a (LF a 60) x y → P (some (I_ 0)) n (W0 dy) G := fun z => h0 fun w => z (leq.mp w)
  have h1 : LB a (LF a 60) x y → P (some (I_ 1)) n (W0 dy) G := fun z => h1 (leq.mpr z)
  clear leq
  have ex : ((x : Nat) : Int).toNat = x := rfl
  have ey : ((y : Nat) : Int).toNat = y := rfl
  refine wX12_isLike hn ⟨⟨by omega, by omega⟩, ⟨by omega, by omega⟩, ?_⟩
  rw [ex, ey, f 57 x (by omega), f 57 y (by omega), f 63 x (by omega), f 63 y (by omega)]
  refine ⟨fun q => h0 fun z => q z.1.1, fun c1 => ⟨fun c2 => ?_, fun q => h0 fun z => q z.1.2⟩⟩
  have rod : rodP a x → V miX12_isLike (d + 1) 38 [(0, .ref 53), (1, I_ (x : Int)), (2, I_ (y : Int))] [I_ 1] n (W0 dy) G 0 0 P := fun rx => by
    have ry : rodP a y := by
      have := rx
      rcases this with w | w
      · exact Or.inl (c1.symm.trans w)
      · exact Or.inr (c1.symm.trans w)
    have bnx := (rod_k hI hx rx).2
    have bny := (rod_k hI hy ry).2
    have qx := (hI.2.2.1 x hx).1
    have qy := (hI.2.2.1 y hy).1
    have sx1 : -1 ≤ a 66 x ∧ a 66 x < a 53 5 := ⟨qx.2.2.2.1.1, qx.2.2.2.1.2.1⟩
    have sx2 : -1 ≤ a 67 x ∧ a 67 x < a 53 5 := ⟨qx.2.2.2.2.1, qx.2.2.2.2.2.1⟩
    have sy1 : -1 ≤ a 66 y ∧ a 66 y < a 53 5 := ⟨qy.2.2.2.1.1, qy.2.2.2.1.2.1⟩
    have sy2 : -1 ≤ a 67 y ∧ a 67 y < a 53 5 := ⟨qy.2.2.2.2.1, qy.2.2.2.2.2.1⟩
    have kx1 : 0 ≤ a 66 x → a 60 (a 66 x).toNat = (x : Int) := fun z => (qx.2.2.2.1.2.2 z).1
    have kx2 : 0 ≤ a 67 x → a 60 (a 67 x).toNat = (x : Int) := fun z => (qx.2.2.2.2.2.2 z).1
    have ky1 : 0 ≤ a 66 y → a 60 (a 66 y).toNat = (y : Int) := fun z => (qy.2.2.2.1.2.2 z).1
    have ky2 : 0 ≤ a 67 y → a 60 (a 67 y).toNat = (y : Int) := fun z => (qy.2.2.2.2.2.2 z).1
    have hl2 : ∀ s t : Int, s < a 53 5 → t < a 53 5 → (0 ≤ s → a 60 s.toNat = (x : Int)) → (0 ≤ t → a 60 t.toNat = (y : Int)) → 0 ≤ s → 0 ≤ t → (G 73 s.toNat = G 73 t.toNat ↔ LF a 60 s.toNat t.toNat) := fun s t hs ht e1 e2 c1 c2 => hl s.toNat t.toNat (by omega) (by omega) (e1 c1) (e2 c2)
    have p1 := pr_b (show 0 ≤ a 64 x ∧ a 64 x ≤ 1920000000 by omega) (show 0 ≤ a 65 y ∧ a 65 y ≤ 1920000000 by omega)
    have p2 := pr_b (show 0 ≤ a 64 y ∧ a 64 y ≤ 1920000000 by omega) (show 0 ≤ a 65 x ∧ a 65 x ≤ 1920000000 by omega)
    have p3 := pr_b (show 0 ≤ a 65 y - a 64 y ∧ a 65 y - a 64 y ≤ 1920000000 by omega) (show 0 ≤ a 65 x ∧ a 65 x ≤ 1920000000 by omega)
    have i61 : i6 (a 64 x * a 65 y) := ⟨by omega, by omega⟩
    have i62 : i6 (a 64 y * a 65 x) := ⟨by omega, by omega⟩
    have i63 : i6 ((a 65 y - a 64 y) * a 65 x) := ⟨by omega, by omega⟩
    have ix : (0 : Int) ≤ (x : Int) ∧ (x : Int) < 60 := ⟨by omega, by omega⟩
    have iy : (0 : Int) ≤ (y : Int) ∧ (y : Int) < 60 := ⟨by omega, by omega⟩
    clear p1 p2 p3 bnx bny
    refine bX12_isLike_38 hn ⟨by decide, fun _ => ⟨ix, iy, ?_⟩, fun q => absurd q (by decide)⟩
    rw [ex, ey, f 59 x (by omega), f 59 y (by omega), f 58 x (by omega), f 58 y (by omega), f 64 x (by omega), f 64 y (by omega), f 65 x (by omega), f 65 y (by omega), f 66 x (by omega), f 66 y (by omega), f 67 y (by omega)]
    refine ⟨fun q => h0 fun z => q (z.2 rx).1.1, fun c3 => ⟨fun c4 => ⟨i61, i62, ?_⟩, fun q => h0 fun z => q (z.2 rx).1.2⟩⟩
    have sw : ¬ (T1 a x y ∧ SE (LF a 60) (a 62) (a 66 x) (a 66 y) ∧ SE (LF a 60) (a 62) (a 67 x) (a 67 y)) → (a 64 x * a 65 y ≠ (a 65 y - a 64 y) * a 65 x → P (some (I_ 0)) n (W0 dy) G) ∧ (a 64 x * a 65 y = (a 65 y - a 64 y) * a 65 x → Runs miX12_isSide d [.ref 53, I_ (a 66 x), I_ (a 67 y)] n (W0 dy) G (fun v n' S' g' => V miX12_isLike (d + 1) 198 [(0, .ref 53), (1, I_ (x : Int)), (2, I_ (y : Int))] (v.toList ++ []) n' S' g' 0 0 P)) := fun nd => by
      refine ⟨fun z => h0 fun w => (w.2 rx).2.elim nd (fun w => z w.1), fun z => ?_⟩
      refine sp_isSide hn hI hz sx1 sy2 (hl2 _ _ sx1.2 sy2.2 kx1 ky2) (fun w => ?_) (fun w => ?_)
      · exact bX12_isLike_198 hn ⟨by decide, fun _ => h0 fun v => (v.2 rx).2.elim nd (fun v => w v.2.1), fun q => absurd rfl q⟩
      · refine bX12_isLike_198 hn ⟨by decide, fun q => absurd q (by decide), fun _ => ⟨ix, iy, ?_⟩⟩
        rw [ex, ey, f 67 x (by omega), f 66 y (by omega)]
        refine sp_isSide hn hI hz sx2 sy1 (hl2 _ _ sx2.2 sy1.2 kx2 ky1) (fun u => ?_) (fun u => ?_)
        · exact bX12_isLike_217 hn ⟨by decide, fun _ => h0 fun v => (v.2 rx).2.elim nd (fun v => u v.2.2), fun q => absurd rfl q⟩
        · exact bX12_isLike_217 hn ⟨by decide, fun q => absurd q (by decide), fun _ => h1 ⟨⟨c1, c2⟩, fun _ => ⟨⟨c3, c4⟩, Or.inr ⟨z, w, u⟩⟩⟩⟩
    refine ⟨fun t => ⟨i63, sw fun w => t w.1⟩, fun t => ?_⟩
    refine sp_isSide hn hI hz sx1 sy1 (hl2 _ _ sx1.2 sy1.2 kx1 ky1) (fun w => ?_) (fun w => ?_)
    · refine bX12_isLike_121 hn ⟨by decide, fun _ => ⟨ix, iy, ?_⟩, fun q => absurd rfl q⟩
      rw [ex, ey, f 64 x (by omega), f 64 y (by omega), f 65 x (by omega), f 65 y (by omega), f 66 x (by omega), f 67 y (by omega)]
      exact ⟨i61, i63, sw fun v => w v.2.1⟩
    · refine bX12_isLike_121 hn ⟨by decide, fun q => absurd q (by decide), fun _ => ⟨ix, iy, ?_⟩⟩
      rw [ex, ey, f 67 x (by omega), f 67 y (by omega)]
      refine sp_isSide hn hI hz sx2 sy2 (hl2 _ _ sx2.2 sy2.2 kx2 ky2) (fun u => ?_) (fun u => ?_)
      · refine bX12_isLike_140 hn ⟨by decide, fun _ => ⟨ix, iy, ?_⟩, fun q => absurd rfl q⟩
        rw [ex, ey, f 64 x (by omega), f 64 y (by omega), f 65 x (by omega), f 65 y (by omega), f 66 x (by omega), f 67 y (by omega)]
        exact ⟨i61, i63, sw fun v => u v.2.2⟩
      · exact bX12_isLike_140 hn ⟨by decide, fun q => absurd q (by decide), fun _ => h1 ⟨⟨c1, c2⟩, fun _ => ⟨⟨c3, c4⟩, Or.inl ⟨t, w, u⟩⟩⟩⟩
  refine wX12_isRod hn ⟨⟨by omega, by omega⟩, ?_⟩
  rw [ex, f 57 x (by omega)]
  refine ⟨fun z => rod (Or.inl z), fun z => ⟨fun z2 => ?_, fun z2 => rod (Or.inr z2)⟩⟩
  exact bX12_isLike_38 hn ⟨by decide, fun q => absurd rfl q, fun _ => h1 ⟨⟨c1, c2⟩, fun w => absurd w (fun w => w.elim z z2)⟩⟩
end Same3
