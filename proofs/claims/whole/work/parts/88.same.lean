/-! SAME: likeness -/
noncomputable def bI (p : Prop) : Int := @ite Int p (Classical.propDecidable p) 1 0
theorem bI_t {p : Prop} (h : p) : bI p = 1 := if_pos h
theorem bI_f {p : Prop} (h : ¬ p) : bI p = 0 := if_neg h
def SE (R : Nat → Nat → Prop) (th : Nat → Int) (s t : Int) : Prop := (s < 0 ∧ t < 0) ∨ (0 ≤ s ∧ 0 ≤ t ∧ th s.toNat = th t.toNat ∧ R s.toNat t.toNat)
abbrev T1 (a : Hp) (x y : Nat) : Prop := a 64 x * a 65 y = a 64 y * a 65 x
abbrev T2 (a : Hp) (x y : Nat) : Prop := a 64 x * a 65 y = (a 65 y - a 64 y) * a 65 x
abbrev rodP (a : Hp) (x : Nat) : Prop := a 57 x = 2 ∨ a 57 x = 3
def LB (a : Hp) (R : Nat → Nat → Prop) (x y : Nat) : Prop :=
  (a 57 x = a 57 y ∧ a 63 x = a 63 y) ∧ (rodP a x → (a 59 x = a 59 y ∧ a 58 x = a 58 y) ∧ ((T1 a x y ∧ SE R (a 62) (a 66 x) (a 66 y) ∧ SE R (a 62) (a 67 x) (a 67 y)) ∨ (T2 a x y ∧ SE R (a 62) (a 66 x) (a 67 y) ∧ SE R (a 62) (a 67 x) (a 66 y))))
/-- x and y are alike, to a depth of f -/
def LF (a : Hp) : Nat → Nat → Nat → Prop
  | 0, _, _ => False
  | f + 1, x, y => LB a (LF a f) x y
section Same
variable {a : Hp}
theorem SE.mono {R R' : Nat → Nat → Prop} {th : Nat → Int} {s t : Int} (h : SE R th s t) (hi : 0 ≤ s → 0 ≤ t → R s.toNat t.toNat → R' s.toNat t.toNat) : SE R' th s t := by
  rcases h with z | ⟨z1, z2, z3, z4⟩
  · exact Or.inl z
  · exact Or.inr ⟨z1, z2, z3, hi z1 z2 z4⟩
theorem LF_st (hI : Inv a) {dp : Nat → Nat} (hD : DP (a 53 5) (a 60) dp) : ∀ (f f' x y : Nat), (x : Int) < a 53 5 → 60 ≤ f + dp x → 60 ≤ f' + dp x → LF a f x y → LF a f' x y
  | 0, f', x, y, hx, h1, h2, h => h.elim
  | f + 1, 0, x, y, hx, h1, h2, h => by
    have := (hD x hx).2.1
    have := hI.1
    omega
  | f + 1, f' + 1, x, y, hx, h1, h2, h => by
    have q := (hI.2.2.1 x hx).1
    have kid : ∀ s : Int, s < a 53 5 → (0 ≤ s → a 60 s.toNat = (x : Int)) → 0 ≤ s → ∀ t : Nat, LF a f s.toNat t → LF a f' s.toNat t := fun s hs hs2 c t ht => by
      have hsN : ((s.toNat : Nat) : Int) < a 53 5 := by omega
      have e := hs2 c
      have := (hD s.toNat hsN).2.2.2 (by omega)
      rw [e] at this
      have : dp s.toNat = dp x + 1 := this
      exact LF_st hI hD f f' s.toNat t hsN (by omega) (by omega) ht
    have kl := kid (a 66 x) q.2.2.2.1.2.1 (fun z => (q.2.2.2.1.2.2 z).1)
    have kr := kid (a 67 x) q.2.2.2.2.2.1 (fun z => (q.2.2.2.2.2.2 z).1)
    refine ⟨h.1, fun rod => ?_⟩
    obtain ⟨h3, h4⟩ := h.2 rod
    refine ⟨h3, ?_⟩
    rcases h4 with ⟨t, u, v⟩ | ⟨t, u, v⟩
    · exact Or.inl ⟨t, u.mono fun c _ z => kl c _ z, v.mono fun c _ z => kr c _ z⟩
    · exact Or.inr ⟨t, u.mono fun c _ z => kl c _ z, v.mono fun c _ z => kr c _ z⟩
/-- the equation of likeness -/
theorem LF_eq (hI : Inv a) {x y : Nat} (hx : (x : Int) < a 53 5) : LF a 60 x y ↔ LB a (LF a 60) x y := by
  obtain ⟨dp, hD⟩ := hI.dp
  constructor
  · intro h
    exact LF_st hI hD 60 61 x y hx (by omega) (by omega) h
  · intro h
    exact LF_st hI hD 61 60 x y hx (by omega) (by omega) h
theorem LF_refl (hI : Inv a) {dp : Nat → Nat} (hD : DP (a 53 5) (a 60) dp) : ∀ f x : Nat, (x : Int) < a 53 5 → 60 ≤ f + dp x → LF a f x x
  | 0, x, hx, h => by
    have := (hD x hx).2.1
    have := hI.1
    omega
  | f + 1, x, hx, h => by
    have q := (hI.2.2.1 x hx).1
    have kid : ∀ s : Int, s < a 53 5 → (0 ≤ s → a 60 s.toNat = (x : Int)) → SE (LF a f) (a 62) s s := fun s hs hs2 => by
      by_cases c : s < 0
      · exact Or.inl ⟨c, c⟩
      · have hsN : ((s.toNat : Nat) : Int) < a 53 5 := by omega
        have e := hs2 (by omega)
        have := (hD s.toNat hsN).2.2.2 (by omega)
        rw [e] at this
        have : dp s.toNat = dp x + 1 := this
        exact Or.inr ⟨by omega, by omega, rfl, LF_refl hI hD f s.toNat hsN (by omega)⟩
    exact ⟨⟨rfl, rfl⟩, fun _ => ⟨⟨rfl, rfl⟩, Or.inl ⟨rfl, kid _ q.2.2.2.1.2.1 (fun z => (q.2.2.2.1.2.2 z).1), kid _ q.2.2.2.2.2.1 (fun z => (q.2.2.2.2.2.2 z).1)⟩⟩⟩
theorem T2.sym {x y : Nat} (h : T2 a x y) : T2 a y x := by
  unfold T2 at h ⊢
  grind
theorem LF_sym : ∀ f x y : Nat, LF a f x y → LF a f y x
  | 0, _, _, h => h
  | f + 1, x, y, h => by
    have se : ∀ s t : Int, SE (LF a f) (a 62) s t → SE (LF a f) (a 62) t s := fun s t z => by
      rcases z with z | ⟨z1, z2, z3, z4⟩
      · exact Or.inl ⟨z.2, z.1⟩
      · exact Or.inr ⟨z2, z1, z3.symm, LF_sym f _ _ z4⟩
    have h : LB a (LF a f) x y := h
    refine ⟨⟨h.1.1.symm, h.1.2.symm⟩, fun rod => ?_⟩
    have rx : rodP a x := by unfold rodP at rod ⊢; rw [h.1.1]; exact rod
    obtain ⟨h3, h4⟩ := h.2 rx
    refine ⟨⟨h3.1.symm, h3.2.symm⟩, ?_⟩
    rcases h4 with ⟨t, u, v⟩ | ⟨t, u, v⟩
    · exact Or.inl ⟨t.symm, se _ _ u, se _ _ v⟩
    · exact Or.inr ⟨T2.sym t, se _ _ v, se _ _ u⟩
theorem T_11 {px qx py qy pz qz : Int} (hq : qy ≠ 0) (h1 : px * qy = py * qx) (h2 : py * qz = pz * qy) : px * qz = pz * qx :=
  Int.eq_of_mul_eq_mul_right hq (by grind)
theorem T_12 {px qx py qy pz qz : Int} (hq : qy ≠ 0) (h1 : px * qy = py * qx) (h2 : py * qz = (qz - pz) * qy) : px * qz = (qz - pz) * qx :=
  Int.eq_of_mul_eq_mul_right hq (by grind)
theorem T_21 {px qx py qy pz qz : Int} (hq : qy ≠ 0) (h1 : px * qy = (qy - py) * qx) (h2 : py * qz = pz * qy) : px * qz = (qz - pz) * qx :=
  Int.eq_of_mul_eq_mul_right hq (by grind)
theorem T_22 {px qx py qy pz qz : Int} (hq : qy ≠ 0) (h1 : px * qy = (qy - py) * qx) (h2 : py * qz = (qz - pz) * qy) : px * qz = pz * qx :=
  Int.eq_of_mul_eq_mul_right hq (by grind)
theorem LF_trans (hI : Inv a) : ∀ f x y z : Nat, (x : Int) < a 53 5 → (y : Int) < a 53 5 → (z : Int) < a 53 5 → LF a f x y → LF a f y z → LF a f x z
  | 0, _, _, _, _, _, _, h, _ => h
  | f + 1, x, y, z, hx, hy, hz, h, h' => by
    have b : ∀ w : Nat, (w : Int) < a 53 5 → a 66 w < a 53 5 ∧ a 67 w < a 53 5 := fun w hw => ⟨(hI.2.2.1 w hw).1.2.2.2.1.2.1, (hI.2.2.1 w hw).1.2.2.2.2.2.1⟩
    have se : ∀ s t u : Int, s < a 53 5 → t < a 53 5 → u < a 53 5 → SE (LF a f) (a 62) s t → SE (LF a f) (a 62) t u → SE (LF a f) (a 62) s u := fun s t u hs ht hu p q => by
      rcases p with p | ⟨p1, p2, p3, p4⟩
      · rcases q with q | q
        · exact Or.inl ⟨p.1, q.2⟩
        · have := q.1; omega
      · rcases q with q | ⟨q1, q2, q3, q4⟩
        · omega
        · exact Or.inr ⟨p1, q2, p3.trans q3, LF_trans hI f _ _ _ (by omega) (by omega) (by omega) p4 q4⟩
    have h : LB a (LF a f) x y := h
    have h' : LB a (LF a f) y z := h'
    refine ⟨⟨h.1.1.trans h'.1.1, h.1.2.trans h'.1.2⟩, fun rod => ?_⟩
    have ry : rodP a y := by unfold rodP at rod ⊢; rw [← h.1.1]; exact rod
    obtain ⟨h3, h4⟩ := h.2 rod
    obtain ⟨h5, h6⟩ := h'.2 ry
    have qy : a 65 y ≠ 0 := by have := (rod_k hI hy ry).2; omega
    obtain ⟨bx1, bx2⟩ := b x hx
    obtain ⟨by1, by2⟩ := b y hy
    obtain ⟨bz1, bz2⟩ := b z hz
    refine ⟨⟨h3.1.trans h5.1, h3.2.trans h5.2⟩, ?_⟩
    rcases h4 with ⟨t, u, v⟩ | ⟨t, u, v⟩
    · rcases h6 with ⟨t', u', v'⟩ | ⟨t', u', v'⟩
      · exact Or.inl ⟨T_11 qy t t', se _ _ _ bx1 by1 bz1 u u', se _ _ _ bx2 by2 bz2 v v'⟩
      · exact Or.inr ⟨T_12 qy t t', se _ _ _ bx1 by1 bz2 u u', se _ _ _ bx2 by2 bz1 v v'⟩
    · rcases h6 with ⟨t', u', v'⟩ | ⟨t', u', v'⟩
      · exact Or.inr ⟨T_21 qy t t', se _ _ _ bx1 by2 bz2 u v', se _ _ _ bx2 by1 bz1 v u'⟩
      · exact Or.inl ⟨T_22 qy t t', se _ _ _ bx1 by2 bz1 u v', se _ _ _ bx2 by1 bz2 v u'⟩
end Same
noncomputable def opSame (a : Hp) (x1 x2 : Int) : Int × Hp :=
  if topI a x1 = 2 ∨ topI a x2 = 2 then (-1, up2 a 53 0 2)
  else if 0 < topI a x1 ∨ 0 < topI a x2 then (-1, up2 a 53 0 8)
  else (bI (LF a 60 x1.toNat x2.toNat), a)
section Same2
variable {d n : Nat} {dy : Nat → Shp} {g a G : Hp} {P : Pst}
theorem cs_isTiedAt {r : Nat} {u v : Int} (hC : Ca n dy g a) (hI : Inv a) (hr : (r : Int) < a 53 5) (c : rodP a r) (hu : 0 ≤ u ∧ u ≤ 1920000000) (hv : 0 ≤ v ∧ v ≤ 1920000000) (h0 : a 64 r * v ≠ u * a 65 r → P (some (I_ 0)) n (W0 dy) g) (h1 : a 64 r * v = u * a 65 r → P (some (I_ 1)) n (W0 dy) g) : Runs miX6_isTiedAt d [.ref (g 3 r).toNat, I_ u, I_ v] n (W0 dy) g P := by
  have ob := (hC.2.2.2.1 r hr).ob c
  obtain ⟨⟨e12, e13⟩, -⟩ := (hC.known hr).2 c
  obtain ⟨-, rb⟩ := rod_k hI hr c
  have p1 := pr_b (show 0 ≤ a 64 r ∧ a 64 r ≤ 1920000000 by omega) hv
  have p2 := pr_b hu (show 0 ≤ a 65 r ∧ a 65 r ≤ 1920000000 by omega)
  refine wX6_isTiedAt hC.1 ⟨ob, ⟨by omega, by omega⟩, ⟨by omega, by omega⟩, ?_⟩
  rw [e12, e13]
  exact ⟨⟨by omega, by omega⟩, ⟨by omega, by omega⟩, h0, h1⟩
theorem cs_alike (hC : Ca n dy g a) (hI : Inv a) : ∀ (f x y : Nat) (P : Pst), f ≤ 60 → (x : Int) < a 53 5 → (y : Int) < a 53 5 → (¬ LF a f x y → P (some (I_ 0)) n (W0 dy) g) → (LF a f x y → P (some (I_ 1)) n (W0 dy) g) → Runs miX11_areAlike (d + 2 * f + 1) [.ref (g 3 x).toNat, .ref (g 3 y).toNat, I_ ((60 : Int) - (f : Int))] n (W0 dy) g P := by
  have hn := hC.1
  intro f
  induction f with
  | zero =>
    intro x y P hf hx hy h0 h1
    exact wX11_areAlike hn ⟨by decide, fun _ => h0 (fun z => z), fun q => absurd q (by decide)⟩
  | succ f ih =>
    intro x y P hf hx hy h0 h1
    have h0 : ¬ LB a (LF a f) x y → P (some (I_ 0)) n (W0 dy) g := h0
    have h1 : LB a (LF a f) x y → P (some (I_ 1)) n (W0 dy) g := h1
    have ptx := (hC.2.2.2.1 x hx).pt (hI.2.2.1 x hx).2
    have pty := (hC.2.2.2.1 y hy).pt (hI.2.2.1 y hy).2
    have bx := hC.cell hx
    have by' := hC.cell hy
    have kx : g (g 3 x).toNat 1 = a 57 x ∧ g (g 3 x).toNat 2 = a 63 x := (hC.2.2.2.1 x hx).2.1.2
    have ky : g (g 3 y).toNat 1 = a 57 y ∧ g (g 3 y).toNat 2 = a 63 y := (hC.2.2.2.1 y hy).2.1.2
    -- the sides
    have side : ∀ (s t : Int) (Q : Pst), (-1 ≤ s ∧ s < a 53 5) → (-1 ≤ t ∧ t < a 53 5) → (¬ SE (LF a f) (a 62) s t → Q (some (I_ 0)) n (W0 dy) g) → (SE (LF a f) (a 62) s t → Q (some (I_ 1)) n (W0 dy) g) → Runs miX11_areSidesAlike (d + 2 * f + 2) [.ref (rfx (g 3) s).toNat, .ref (rfx (g 3) t).toNat, I_ ((60 : Int) - ((f + 1 : Nat) : Int))] n (W0 dy) g Q := by
      intro s t Q hs ht k0 k1
      unfold rfx
      by_cases cs : s < 0
      · rw [if_pos cs]
        by_cases ct : t < 0
        · rw [if_pos ct]
          exact wX11_areSidesAlike hn ⟨fun _ => ⟨fun q => absurd q (by decide), fun _ => ⟨fun q => absurd q (by decide), fun _ => k1 (Or.inl ⟨cs, ct⟩)⟩⟩, fun q => absurd q (by decide)⟩
        · rw [if_neg ct]
          have bt := hC.cell (k := t.toNat) (by omega)
          have no : ¬ SE (LF a f) (a 62) s t := fun z => by
            rcases z with z | z
            · omega
            · have := z.1; omega
          exact wX11_areSidesAlike hn ⟨fun _ => ⟨fun q => absurd q (by decide), fun _ => ⟨fun _ => k0 no, fun q => by omega⟩⟩, fun q => absurd q (by decide)⟩
      · rw [if_neg cs]
        have hsN : ((s.toNat : Nat) : Int) < a 53 5 := by omega
        have bs := hC.cell hsN
        by_cases ct : t < 0
        · rw [if_pos ct]
          have no : ¬ SE (LF a f) (a 62) s t := fun z => by
            rcases z with z | z
            · omega
            · have := z.2.1; omega
          exact wX11_areSidesAlike hn ⟨fun q => by omega, fun _ => ⟨fun q => absurd q (by decide), fun _ => ⟨fun _ => k0 no, fun q => by omega⟩⟩⟩
        · rw [if_neg ct]
          have htN : ((t.toNat : Nat) : Int) < a 53 5 := by omega
          have bt := hC.cell htN
          have e5s := (hC.known hsN).1.2.2
          have e5t := (hC.known htN).1.2.2
          refine wX11_areSidesAlike hn ⟨fun q => by omega, fun _ => ⟨fun _ => ⟨(hC.2.2.2.1 _ hsN).pt (hI.2.2.1 _ hsN).2, (hC.2.2.2.1 _ htN).pt (hI.2.2.1 _ htN).2, ?_⟩, fun q => by omega⟩⟩
          rw [e5s, e5t]
          refine ⟨fun q => k0 fun z => ?_, fun q => ?_⟩
          · rcases z with z | z
            · omega
            · exact q z.2.2.1
          · rw [show (60 : Int) - ((f + 1 : Nat) : Int) + 1 = (60 : Int) - (f : Int) by omega]
            refine ih s.toNat t.toNat _ (by omega) hsN htN (fun z => ?_) (fun z => ?_)
            · exact bX11_areSidesAlike_41 hn ⟨by decide, fun _ => k0 fun w => w.elim (fun w => by omega) (fun w => z w.2.2.2), fun q => absurd rfl q⟩
            · exact bX11_areSidesAlike_41 hn ⟨by decide, fun q => absurd q (by decide), fun _ => k1 (Or.inr ⟨by omega, by omega, q, z⟩)⟩
    refine wX11_areAlike hn ⟨⟨by omega, by omega⟩, fun q => by omega, fun _ => ⟨ptx, pty, ?_⟩⟩
    rw [kx.1, kx.2, ky.1, ky.2]
    refine ⟨fun q => h0 fun z => q z.1.1, fun c1 => ⟨fun c2 => ?_, fun q => h0 fun z => q z.1.2⟩⟩
    refine cs_asRod hC hI hx ⟨fun rx => bX11_areAlike_34 hn (cs_asRod hC hI hy ⟨fun ry => ?_, fun ry => ?_⟩), fun rx => bX11_areAlike_34 hn (cs_asRod hC hI hy ⟨fun ry => ?_, fun ry => ?_⟩)⟩
    · -- two rods
      have obx := (hC.2.2.2.1 x hx).ob rx
      have oby := (hC.2.2.2.1 y hy).ob ry
      obtain ⟨⟨x12, x13⟩, x14, x15⟩ := (hC.known hx).2 rx
      obtain ⟨⟨y12, y13⟩, y14, y15⟩ := (hC.known hy).2 ry
      have x10 : g (g 3 x).toNat 10 = a 59 x ∧ g (g 3 x).toNat 11 = a 58 x := by
        have := ((hC.2.2.2.1 x hx).2.2.2.2.1 rx).2.1
        exact ⟨this.1, this.2.1⟩
      have y10 : g (g 3 y).toNat 10 = a 59 y ∧ g (g 3 y).toNat 11 = a 58 y := by
        have := ((hC.2.2.2.1 y hy).2.2.2.2.1 ry).2.1
        exact ⟨this.1, this.2.1⟩
      have bny := (rod_k hI hy ry).2
      have qx := (hI.2.2.1 x hx).1
      have qy := (hI.2.2.1 y hy).1
      have sx1 : -1 ≤ a 66 x ∧ a 66 x < a 53 5 := ⟨qx.2.2.2.1.1, qx.2.2.2.1.2.1⟩
      have sx2 : -1 ≤ a 67 x ∧ a 67 x < a 53 5 := ⟨qx.2.2.2.2.1, qx.2.2.2.2.2.1⟩
      have sy1 : -1 ≤ a 66 y ∧ a 66 y < a 53 5 := ⟨qy.2.2.2.1.1, qy.2.2.2.1.2.1⟩
      have sy2 : -1 ≤ a 67 y ∧ a 67 y < a 53 5 := ⟨qy.2.2.2.2.1, qy.2.2.2.2.2.1⟩
      refine bX11_areAlike_39 hn ⟨fun q => by omega, fun _ => ⟨fun _ => ⟨obx, oby, ?_⟩, fun q => by omega⟩⟩
      rw [x10.1, x10.2, y10.1, y10.2, y12, y13]
      refine ⟨fun q => h0 fun z => q (z.2 rx).1.1, fun c3 => ⟨fun c4 => ?_, fun q => h0 fun z => q (z.2 rx).1.2⟩⟩
      -- the other way round
      have sw : ¬ (T1 a x y ∧ SE (LF a f) (a 62) (a 66 x) (a 66 y) ∧ SE (LF a f) (a 62) (a 67 x) (a 67 y)) → Runs miX6_isTiedAt (d + 2 * f + 2) [.ref (g 3 x).toNat, I_ (g (g 3 y).toNat 13 - g (g 3 y).toNat 12), I_ (g (g 3 y).toNat 13)] n (W0 dy) g (fun v n' S' g' => V miX11_areAlike (d + 2 * f + 3) 149 [(0, .ref (g 3 x).toNat), (1, .ref (g 3 y).toNat), (2, I_ ((60 : Int) - ((f + 1 : Nat) : Int))), (3, .ref (g 3 x).toNat), (4, .ref (g 3 y).toNat)] (v.toList ++ []) n' S' g' 0 0 P) := fun nd => by
        rw [y12, y13]
        refine cs_isTiedAt hC hI hx rx ⟨by omega, by omega⟩ ⟨by omega, by omega⟩ (fun z => ?_) (fun z => ?_)
        · exact bX11_areAlike_149 hn ⟨by decide, fun _ => h0 fun w => (w.2 rx).2.elim nd (fun w => z w.1), fun q => absurd rfl q⟩
        · refine bX11_areAlike_149 hn ⟨by decide, fun q => absurd q (by decide), fun _ => ⟨obx, oby, ?_⟩⟩
          rw [x14, y15]
          refine side _ _ _ sx1 sy2 (fun w => ?_) (fun w => ?_)
          · exact bX11_areAlike_165 hn ⟨by decide, fun _ => h0 fun v => (v.2 rx).2.elim nd (fun v => w v.2.1), fun q => absurd rfl q⟩
          · refine bX11_areAlike_165 hn ⟨by decide, fun q => absurd q (by decide), fun _ => ⟨obx, oby, ?_⟩⟩
            rw [x15, y14]
            refine side _ _ _ sx2 sy1 (fun u => ?_) (fun u => ?_)
            · exact bX11_areAlike_181 hn ⟨by decide, fun _ => h0 fun v => (v.2 rx).2.elim nd (fun v => u v.2.2), fun q => absurd rfl q⟩
            · exact bX11_areAlike_181 hn ⟨by decide, fun q => absurd q (by decide), fun _ => h1 ⟨⟨c1, c2⟩, fun _ => ⟨⟨c3, c4⟩, Or.inr ⟨z, w, u⟩⟩⟩⟩
      refine cs_isTiedAt hC hI hx rx ⟨by omega, by omega⟩ ⟨by omega, by omega⟩ (fun z => ?_) (fun z => ?_)
      · exact bX11_areAlike_92 hn ⟨by decide, fun _ => ⟨oby, obx, sw fun w => z w.1⟩, fun q => absurd rfl q⟩
      · refine bX11_areAlike_92 hn ⟨by decide, fun q => absurd q (by decide), fun _ => ⟨obx, oby, ?_⟩⟩
        rw [x14, y14]
        refine side _ _ _ sx1 sy1 (fun w => ?_) (fun w => ?_)
        · exact bX11_areAlike_108 hn ⟨by decide, fun _ => ⟨oby, obx, sw fun v => w v.2.1⟩, fun q => absurd rfl q⟩
        · refine bX11_areAlike_108 hn ⟨by decide, fun q => absurd q (by decide), fun _ => ⟨obx, oby, ?_⟩⟩
          rw [x15, y15]
          refine side _ _ _ sx2 sy2 (fun u => ?_) (fun u => ?_)
          · exact bX11_areAlike_124 hn ⟨by decide, fun _ => ⟨oby, obx, sw fun v => u v.2.2⟩, fun q => absurd rfl q⟩
          · exact bX11_areAlike_124 hn ⟨by decide, fun q => absurd q (by decide), fun _ => h1 ⟨⟨c1, c2⟩, fun _ => ⟨⟨c3, c4⟩, Or.inl ⟨z, w, u⟩⟩⟩⟩
    · exact absurd (by rw [← c1]; exact rx) ry
    · exact absurd (by rw [c1]; exact ry) rx
    · exact bX11_areAlike_39 hn ⟨fun _ => h1 ⟨⟨c1, c2⟩, fun z => absurd z rx⟩, fun q => absurd q (by decide)⟩
end Same2
