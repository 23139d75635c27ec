/-! MIDDLE -/
def opMiddle (a : Hp) (x1 x2 : Int) : Int × Hp :=
  if x1 < 0 ∨ a 53 5 ≤ x1 then (-1, up2 a 53 0 2)
  else if a 57 x1.toNat ≠ 4 then (-1, up2 a 53 0 5)
  else if x2 < 0 ∨ 3 < x2 then (-1, up2 a 53 0 7)
  else (mdl a x1.toNat x2.toNat, a)
theorem pb {x y : Int} {A B : Nat} (hx : x.natAbs ≤ A) (hy : y.natAbs ≤ B) : (x * y).natAbs ≤ A * B := by
  rw [Int.natAbs_mul]; exact Nat.mul_le_mul hx hy
section Mid
variable {c X Y Z : Nat → Int} {k : Nat}
theorem crs_b {i j : Nat} (hX : ∀ q, q < 8 → (X (8 * k + q)).natAbs ≤ 1000) (hY : ∀ q, q < 8 → (Y (8 * k + q)).natAbs ≤ 1000) (hi : i < 8) (hj : j < 8) : (X (8 * k + i) * Y (8 * k + j) - X (8 * k + j) * Y (8 * k + i)).natAbs ≤ 2000000 := by
  have := pb (hX i hi) (hY j hj)
  have := pb (hX j hj) (hY i hi)
  omega
theorem twR_b (hc : 3 ≤ c k ∧ c k ≤ 8) (hX : ∀ q : Nat, (q : Int) < c k → (X (8 * k + q)).natAbs ≤ 1000) (hY : ∀ q : Nat, (q : Int) < c k → (Y (8 * k + q)).natAbs ≤ 1000) : ∀ m : Nat, (m : Int) ≤ c k → (twR c X Y k m).natAbs ≤ 2000000 * m
  | 0, _ => by unfold twR; decide
  | m + 1, hm => by
    have h1 := twR_b hc hX hY m (by omega)
    have hl := Nat.mod_lt (m + 1) (show 0 < (c k).toNat by omega)
    have hl2 : (((m + 1) % (c k).toNat : Nat) : Int) < c k := by
      generalize (m + 1) % (c k).toNat = r at hl
      omega
    have a1 := pb (hX m (by omega)) (hY ((m + 1) % (c k).toNat) hl2)
    have a2 := pb (hX ((m + 1) % (c k).toNat) hl2) (hY m (by omega))
    unfold twR
    omega
theorem smR_b (hc : 3 ≤ c k ∧ c k ≤ 8) (hX : ∀ q : Nat, (q : Int) < c k → (X (8 * k + q)).natAbs ≤ 1000) (hY : ∀ q : Nat, (q : Int) < c k → (Y (8 * k + q)).natAbs ≤ 1000) (hZ : ∀ q : Nat, (q : Int) < c k → (Z (8 * k + q)).natAbs ≤ 1000) : ∀ m : Nat, (m : Int) ≤ c k → (smR c X Y Z k m).natAbs ≤ 4000000000 * m
  | 0, _ => by unfold smR; decide
  | m + 1, hm => by
    have h1 := smR_b hc hX hY hZ m (by omega)
    have hl := Nat.mod_lt (m + 1) (show 0 < (c k).toNat by omega)
    have hl2 : (((m + 1) % (c k).toNat : Nat) : Int) < c k := by
      generalize (m + 1) % (c k).toNat = r at hl
      omega
    have a1 := pb (hX m (by omega)) (hY ((m + 1) % (c k).toNat) hl2)
    have a2 := pb (hX ((m + 1) % (c k).toNat) hl2) (hY m (by omega))
    have z1 := hZ m (by omega)
    have z2 := hZ ((m + 1) % (c k).toNat) hl2
    have a3 := pb (x := X (8 * k + m) * Y (8 * k + (m + 1) % (c k).toNat) - X (8 * k + (m + 1) % (c k).toNat) * Y (8 * k + m)) (y := Z (8 * k + m) + Z (8 * k + (m + 1) % (c k).toNat)) (A := 2000000) (B := 2000) (by omega) (by omega)
    unfold smR
    omega
end Mid
section Mid2
variable {d n : Nat} {dy : Nat → Shp} {g a G : Hp} {P : Pst}
theorem rs_middle_loop {k w : Nat} (hn : 100 ≤ n) (hk : k < 60) (hw : w < 4) (hc : 3 ≤ a 68 k ∧ a 68 k ≤ 8) (hX : ∀ q : Nat, (q : Int) < a 68 k → (-1000 ≤ a 69 (8 * k + q) ∧ a 69 (8 * k + q) ≤ 1000) ∧ (-1000 ≤ a 70 (8 * k + q) ∧ a 70 (8 * k + q) ≤ 1000)) (h0 : twR (a 68) (a 69) (a 70) k (a 68 k).toNat ≠ 0) (h : P (some (L_ (mdl a k w))) n (W0 dy) a) : V miX12_middle (d + 2) 67 [(0, .ref 53), (1, I_ (k : Int)), (2, I_ (w : Int)), (3, L_ 0), (5, L_ 0), (7, I_ 0)] [] n (W0 dy) a 0 0 P := by
  have bX : ∀ q : Nat, (q : Int) < a 68 k → (a 69 (8 * k + q)).natAbs ≤ 1000 := fun q hq => by have := (hX q hq).1; omega
  have bY : ∀ q : Nat, (q : Int) < a 68 k → (a 70 (8 * k + q)).natAbs ≤ 1000 := fun q hq => by have := (hX q hq).2; omega
  have bZ : ∀ q : Nat, (q : Int) < a 68 k → ((if w < 2 then a 69 else a 70) (8 * k + q)).natAbs ≤ 1000 := fun q hq => by
    split
    · exact bX q hq
    · exact bY q hq
  have tb := twR_b (c := a 68) (X := a 69) (Y := a 70) hc bX bY
  have sb := smR_b (c := a 68) (X := a 69) (Y := a 70) (Z := if w < 2 then a 69 else a 70) hc bX bY bZ
  have key : ∀ (f m : Nat), (m : Int) + f = a 68 k → V miX12_middle (d + 2) 67 [(0, .ref 53), (1, I_ (k : Int)), (2, I_ (w : Int)), (3, L_ (twR (a 68) (a 69) (a 70) k m)), (5, L_ (smR (a 68) (a 69) (a 70) (if w < 2 then a 69 else a 70) k m)), (7, I_ (m : Int))] [] n (W0 dy) a 0 0 P := by
    intro f
    induction f with
    | zero =>
      intro m hm
      have em : m = (a 68 k).toNat := by omega
      have tb' := tb m (by omega)
      have sb' := sb m (by omega)
      refine bX12_middle_67 hn ⟨⟨by omega, by omega⟩, ⟨by omega, by omega⟩, fun _ => ?_, fun q => by
        have q : (m : Int) < a 68 k := q
        omega⟩
      refine spX12_common hn (by unfold mx6; omega) (by unfold mx6; omega) ?_
      have e1 : mdl a k w = if w % 2 = 0 then (smR (a 68) (a 69) (a 70) (if w < 2 then a 69 else a 70) k m).tdiv ((Int.gcd (smR (a 68) (a 69) (a 70) (if w < 2 then a 69 else a 70) k m) (3 * twR (a 68) (a 69) (a 70) k m) : Int) * (if 3 * twR (a 68) (a 69) (a 70) k m < 0 then -1 else 1)) else (3 * twR (a 68) (a 69) (a 70) k m).tdiv ((Int.gcd (smR (a 68) (a 69) (a 70) (if w < 2 then a 69 else a 70) k m) (3 * twR (a 68) (a 69) (a 70) k m) : Int) * (if 3 * twR (a 68) (a 69) (a 70) k m < 0 then -1 else 1)) := by
        rw [em]; rfl
      rw [← em] at h0
      rw [e1] at h
      clear e1 tb sb bX bY bZ
      generalize twR (a 68) (a 69) (a 70) k m = T at tb' h0 h ⊢
      generalize smR (a 68) (a 69) (a 70) (if w < 2 then a 69 else a 70) k m = S at sb' h ⊢
      have gd : Int.gcd S (3 * T) ∣ (3 * T).natAbs := Nat.gcd_dvd_right _ _
      have gl := Nat.le_of_dvd (by omega) gd
      have gp : 0 < Int.gcd S (3 * T) := Nat.pos_of_dvd_of_pos gd (by omega)
      generalize Int.gcd S (3 * T) = D at gl gp h ⊢
      clear gd
      have fin : ∀ s : Int, (s = 1 ∨ s = -1) → (if 3 * T < 0 then (-1 : Int) else 1) = s → (i3 (w : Int)) ∧ (i3 ((w : Int).tmod 2)) ∧ (((w : Int).tmod 2 ≠ 0) → (i6 ((D : Int) * s)) ∧ ((D : Int) * s ≠ 0) ∧ P (some (L_ ((3 * T).tdiv ((D : Int) * s)))) n (W0 dy) a) ∧ (((w : Int).tmod 2 = 0) → (i6 S) ∧ (i6 ((D : Int) * s)) ∧ ((D : Int) * s ≠ 0) ∧ P (some (L_ (S.tdiv ((D : Int) * s)))) n (W0 dy) a) := fun s hs es => by
        rw [es] at h
        have em2 : (w : Int).tmod 2 = ((w % 2 : Nat) : Int) := by
          rw [Int.tmod_eq_emod_of_nonneg (by omega)]; omega
        have b1 : i6 ((D : Int) * s) := by rcases hs with rfl | rfl <;> exact ⟨by omega, by omega⟩
        have b2 : (D : Int) * s ≠ 0 := by rcases hs with rfl | rfl <;> omega
        rw [em2]
        refine ⟨⟨by omega, by omega⟩, ⟨by omega, by omega⟩, fun q => ⟨b1, b2, ?_⟩, fun q => ⟨⟨by omega, by omega⟩, b1, b2, ?_⟩⟩
        · rw [if_neg (by omega)] at h; exact h
        · rw [if_pos (by omega)] at h; exact h
      refine bX12_middle_214 hn ⟨⟨by omega, by omega⟩, fun q => fin 1 (Or.inl rfl) (if_neg (by omega)), fun q => fin (-1) (Or.inr rfl) (if_pos q)⟩
    | succ f ih =>
      intro m hm
      have hl := Nat.mod_lt (m + 1) (show 0 < (a 68 k).toNat by omega)
      have em : ((m : Int) + 1).tmod (a 68 k) = (((m + 1) % (a 68 k).toNat : Nat) : Int) := by
        rw [Int.tmod_eq_emod_of_nonneg (by omega), Int.natCast_emod, show (((a 68 k).toNat : Nat) : Int) = a 68 k by omega]; rfl
      have en : (8 * (k : Int) + (m : Int)).toNat = 8 * k + m := by omega
      have nx := ih (m + 1) (by omega)
      refine bX12_middle_67 hn ⟨⟨by omega, by omega⟩, ⟨by omega, by omega⟩, fun q => by
        have q : a 68 k ≤ (m : Int) := q
        omega, fun _ => ⟨⟨by omega, by omega⟩, show a 68 k ≠ 0 by omega, fun y10 e10 => ?_⟩⟩
      have e10 : y10 = 8 * (k : Int) + ((m : Int) + 1).tmod (a 68 k) := e10
      rw [em] at e10
      have en2 : y10.toNat = 8 * k + (m + 1) % (a 68 k).toNat := by omega
      rw [en, en2]
      have x1 := bX m (by omega)
      have hl2 : (((m + 1) % (a 68 k).toNat : Nat) : Int) < a 68 k := by
        generalize (m + 1) % (a 68 k).toNat = r at hl
        omega
      have x2 := bX ((m + 1) % (a 68 k).toNat) hl2
      have z1 := bY m (by omega)
      have z2 := bY ((m + 1) % (a 68 k).toNat) hl2
      refine ⟨⟨by omega, by omega⟩, ⟨by omega, by omega⟩, fun y21 e21 => ⟨⟨by omega, by omega⟩, fun q => ⟨⟨by omega, by omega⟩, fun y29 e29 => ?_⟩, fun q => ⟨⟨by omega, by omega⟩, fun y35 e35 => ?_⟩⟩⟩
      · have et : twR (a 68) (a 69) (a 70) k (m + 1) = twR (a 68) (a 69) (a 70) k m + y21 := by rw [e21]; rfl
        have es : smR (a 68) (a 69) (a 70) (if w < 2 then a 69 else a 70) k (m + 1) = y29 := by
          rw [e29, e21, if_neg (by omega)]; rfl
        rw [et, es] at nx
        exact nx
      · have et : twR (a 68) (a 69) (a 70) k (m + 1) = twR (a 68) (a 69) (a 70) k m + y21 := by rw [e21]; rfl
        have es : smR (a 68) (a 69) (a 70) (if w < 2 then a 69 else a 70) k (m + 1) = y35 := by
          rw [e35, e21, if_pos (by omega)]; rfl
        rw [et, es] at nx
        exact nx
  exact key (a 68 k).toNat 0 (by omega)
theorem rs_middle {x1 x2 : Int} (hn : 100 ≤ n) (hI : Inv g) (h1 : i3 x1) (h2 : i3 x2) (h : ∀ v g', opMiddle (up2 (up2 g 53 1 0) 53 0 0) x1 x2 = (v, g') → P (some (L_ v)) n (W0 dy) g') : Runs miX12_middle (d + 2) [.ref 53, I_ x1, I_ x2] n (W0 dy) g P := by
  have hI1 : Inv (up2 (up2 g 53 1 0) 53 0 0) := hI
  refine wX12_middle hn ?_
  generalize (up2 (up2 g 53 1 0) 53 0 0) = a at h hI1 ⊢
  have hN := hI1.1
  have un : opMiddle a x1 x2 = if x1 < 0 ∨ a 53 5 ≤ x1 then (-1, up2 a 53 0 2) else if a 57 x1.toNat ≠ 4 then (-1, up2 a 53 0 5) else if x2 < 0 ∨ 3 < x2 then (-1, up2 a 53 0 7) else (mdl a x1.toNat x2.toNat, a) := rfl
  have no : (x1 < 0 ∨ a 53 5 ≤ x1) → V miX12_middle (d + 2) 15 [(0, .ref 53), (1, I_ x1), (2, I_ x2)] [I_ 0] n (W0 dy) a 0 0 P := fun c => bX12_middle_15 hn ⟨by decide, fun q => absurd rfl q, fun _ => wX12_refuse hn ⟨by decide, bX12_middle_23 hn ⟨by decide, h _ _ (un.trans (if_pos c))⟩⟩⟩
  refine wX12_isPart hn ⟨h1, fun c => no (Or.inl c), fun c1 => ⟨fun c => no (Or.inr c), fun c2 => ?_⟩⟩
  clear no
  have un := un.trans (if_neg (by omega))
  obtain ⟨k, rfl⟩ := exN c1
  have c2 : (k : Int) < a 53 5 := c2
  have KIk := (hI1.2.2.1 k c2).2
  refine bX12_middle_15 hn ⟨by decide, fun _ => ⟨⟨by omega, by omega⟩, fun c3 => ?_, fun c3 => wX12_refuse hn ⟨by decide, bX12_middle_40 hn ⟨by decide, h _ _ (un.trans (if_pos c3))⟩⟩⟩, fun q => absurd q (by decide)⟩
  have c3 : a 57 k = 4 := c3
  have un := un.trans (if_neg (show ¬ a 57 k ≠ 4 from fun z => z c3))
  have n7 : (x2 < 0 ∨ 3 < x2) → Runs miX12_refuse (d + 1) [.ref 53, I_ 7] n (W0 dy) a (fun v n' S' g' => V miX12_middle (d + 2) 57 [(0, .ref 53), (1, I_ (k : Int)), (2, I_ x2)] (v.toList ++ []) n' S' g' 0 0 P) := fun c => wX12_refuse hn ⟨by decide, bX12_middle_57 hn ⟨by decide, h _ _ (un.trans (if_pos c))⟩⟩
  refine ⟨h2, fun c => n7 (Or.inl c), fun c4 => ⟨fun c5 => ?_, fun c => n7 (Or.inr c)⟩⟩
  have hp := h _ _ (un.trans (if_neg (by omega)))
  obtain ⟨w, rfl⟩ := exN c4
  rcases KIk with z | z | ⟨z1, z2, z3, z4, z5, z6, z7⟩
  · omega
  · omega
  · exact rs_middle_loop hn (by omega) (by omega) z5 z6 z7 hp
theorem opMiddle_cg {g g1 : Hp} (h : rz g1 = rz g) (x1 x2 : Int) : (opMiddle g1 x1 x2).1 = (opMiddle g x1 x2).1 ∧ rz (opMiddle g1 x1 x2).2 = rz (opMiddle g x1 x2).2 := by
  unfold opMiddle mdl
  rw [rz_of h (i := 53) (q := 5) rfl, rz_row (i := 57) h (fun _ => rfl), rz_row (i := 68) h (fun _ => rfl), rz_row (i := 69) h (fun _ => rfl), rz_row (i := 70) h (fun _ => rfl)]
  repeat' split
  · exact ⟨rfl, by show rz (up2 g1 53 0 _) = rz (up2 g 53 0 _); rw [rz_f0, rz_f0, h]⟩
  · exact ⟨rfl, by show rz (up2 g1 53 0 _) = rz (up2 g 53 0 _); rw [rz_f0, rz_f0, h]⟩
  · exact ⟨rfl, by show rz (up2 g1 53 0 _) = rz (up2 g 53 0 _); rw [rz_f0, rz_f0, h]⟩
  · exact ⟨rfl, h⟩
theorem opMiddle_kc (g : Hp) (x1 x2 : Int) : Kc g (opMiddle g x1 x2).2 := by
  unfold opMiddle
  repeat' split
  all_goals (repeat (first | exact Kc.refl _ | refine Kc.up ?_ (by omega)))
theorem inv_middle {a : Hp} (hI : Inv a) (x1 x2 : Int) : Inv (opMiddle a x1 x2).2 := by
  unfold opMiddle
  repeat' split
  · exact hI.st _
  · exact hI.st _
  · exact hI.st _
  · exact hI
theorem cs_middle {x1 x2 : Int} (hC : Ca n dy g a) (hI : Inv a) (h1 : i3 x1) (h2 : i3 x2) (h : ∀ v a' g', opMiddle (up2 a 53 0 0) x1 x2 = (v, a') → Ca n dy g' a' → Kr g g' → P (some (L_ v)) n (W0 dy) g') : Runs miX11_middle (d + 2) [.ref 1, I_ x1, I_ x2] n (W0 dy) g P := by
  have hn := hC.1
  have kr : ∀ w, Kr g (up2 g 1 3 w) := fun w => (Kr.refl g).up (by omega)
  have un : opMiddle (up2 a 53 0 0) x1 x2 = if x1 < 0 ∨ a 53 5 ≤ x1 then (-1, up2 (up2 a 53 0 0) 53 0 2) else if a 57 x1.toNat ≠ 4 then (-1, up2 (up2 a 53 0 0) 53 0 5) else if x2 < 0 ∨ 3 < x2 then (-1, up2 (up2 a 53 0 0) 53 0 7) else (mdl a x1.toNat x2.toNat, up2 a 53 0 0) := rfl
  refine wX11_middle hn (cs_partAt hC hI h1 ⟨fun c => ?_, fun c1 c2 => ?_⟩)
  · exact bX11_middle_5 hn ⟨fun q => absurd q (Nat.lt_irrefl 0), fun _ => wX11_none hn ⟨by decide, bX11_middle_15 hn ⟨by decide, h _ _ _ (un.trans (if_pos c)) (hC.st2 0 2) (kr 2)⟩⟩⟩
  · have un := un.trans (if_neg (by omega))
    obtain ⟨k, rfl⟩ := exN c1
    have hk : (k : Int) < a 53 5 := c2
    have bk : 0 < (g 3 k).toNat := by have := hC.cell hk; omega
    have KIk := (hI.2.2.1 k hk).2
    have cp := hC.2.2.2.1 k hk
    have ik := cp.iskp KIk
    show V miX11_middle (d + 2) 5 [(0, .ref 1), (1, I_ (k : Int)), (2, I_ x2)] [.ref (g 3 k).toNat] n (W0 dy) g 0 0 P
    refine bX11_middle_5 hn ⟨fun _ => ⟨Or.inr (cp.pt KIk), fun q => ?_, fun q => ?_⟩, fun q => by omega⟩
    · have c3 : a 57 k ≠ 4 := fun e => by rw [ik, if_pos e] at q; exact absurd q (by decide)
      exact wX11_none hn ⟨by decide, bX11_middle_64 hn ⟨by decide, h _ _ _ (un.trans (if_pos c3)) (hC.st2 0 5) (kr 5)⟩⟩
    · have c3 : a 57 k = 4 := by
        by_cases e : a 57 k = 4
        · exact e
        · rw [ik, if_neg e] at q; exact absurd rfl q
      have un := un.trans (if_neg (show ¬ a 57 k ≠ 4 from fun z => z c3))
      obtain ⟨hd, w0, w1, w2, w3⟩ := cp.2.2.2.2.2 c3
      have ob : Ob n (W0 dy) (g 3 k).toNat 3 := by
        have hb := hC.cell hk
        refine ⟨⟨by omega, by omega⟩, ?_, fun q => ?_⟩
        · rw [W0_hi dy (by omega), hd]
        · rw [W0_hi dy (by omega), hd]
      have n7 : (x2 < 0 ∨ 3 < x2) → Runs miX11_none (d + 1) [.ref 1, I_ 7] n (W0 dy) g (fun v n' S' g' => V miX11_middle (d + 2) 45 [(0, .ref 1), (1, I_ (k : Int)), (2, I_ x2), (3, .ref (g 3 k).toNat), (4, .ref (g 3 k).toNat)] (v.toList ++ []) n' S' g' 0 0 P) := fun c => wX11_none hn ⟨by decide, bX11_middle_45 hn ⟨by decide, h _ _ _ (un.trans (if_pos c)) (hC.st2 0 7) (kr 7)⟩⟩
      refine ⟨ob, h2, fun c => n7 (Or.inl c), fun c4 => ⟨fun c5 => ?_, fun c => n7 (Or.inr c)⟩⟩
      have un := un.trans (if_neg (show ¬ (x2 < 0 ∨ 3 < x2) by omega))
      obtain ⟨w, rfl⟩ := exN c4
      have un : opMiddle (up2 a 53 0 0) (k : Int) (w : Int) = (mdl a k w, up2 a 53 0 0) := un
      have hb := hC.cell hk
      have rd : ∀ q, up2 g 1 3 0 (g 3 k).toNat q = g (g 3 k).toNat q := fun q => up2_i (by omega)
      have fin : ∀ v, mdl a k w = v → V miX11_middle (d + 2) 58 [(0, .ref 1), (1, I_ (k : Int)), (2, I_ (w : Int)), (3, .ref (g 3 k).toNat), (4, .ref (g 3 k).toNat)] [L_ v] n (W0 dy) (up2 g 1 3 0) 0 0 P := fun v e => bX11_middle_58 hn (h _ _ _ (un.trans (by rw [e])) (hC.st 0) (kr 0))
      refine wX4_middleAt hn ⟨h2, fun q => ⟨ob, fin _ ?_⟩, fun q => ⟨ob, fin _ ?_⟩, fun q => ⟨ob, fin _ ?_⟩, fun q => ⟨ob, fin _ ?_⟩⟩
      · rw [rd, show w = 3 by omega]; exact w3.symm
      · rw [rd, show w = 0 by omega]; exact w0.symm
      · rw [rd, show w = 1 by omega]; exact w1.symm
      · rw [rd, show w = 2 by omega]; exact w2.symm
end Mid2
