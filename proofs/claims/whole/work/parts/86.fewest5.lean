/-! FEWEST: the reference, all of it -/
section Fewest5
variable {d n : Nat} {dy : Nat → Shp} {g a b G : Hp} {P : Pst} {k : Nat}
/-- the chosen ones are kept -/
theorem rs_kept {W r : List Nat} {x1 x2 : Int} {S : Nat} (hn : 100 ≤ n) (hB : HB b k W r) (hF : FS b G k W r) (hS : S = 0 ∨ S = 2 ^ W.length - 1) (h : ∀ G', (∀ i q, i ≠ 74 → i ≠ 76 → i ≠ 77 → (i ≠ 53 ∨ q ≠ 26) → G' i q = b i q) → (S = 0 → G' 53 26 = 0 ∧ ∀ q, G' 77 q = b 77 q) → (S ≠ 0 → G' 53 26 = (W.length : Int) ∧ ∀ q, G' 77 q = if q < W.length then ((W[q]?.getD 0 : Nat) : Int) else b 77 q) → P (some (I_ (if S = 0 then 0 else (W.length : Int)))) n (W0 dy) G') : V miX12_fewest (d + 4) 296 [(0, .ref 53), (1, I_ x1), (2, I_ x2), (3, I_ (W.length : Int)), (4, I_ (S : Int)), (5, I_ 0)] [] n (W0 dy) (up2 G 53 26 0) 0 0 P := by
  obtain ⟨hI, hk, eW, h14, hO, hM, h96, hl⟩ := hB
  obtain ⟨p1, p2⟩ := pow14 ⟨W.length, by omega⟩
  have p1 : 2 ^ W.length ≤ 16384 := p1
  have p2 : 1 ≤ 2 ^ W.length := p2
  have bit : ∀ i : Nat, i < W.length → and3 (shr3 (S : Int) (((W.length : Int) - 1) - (i : Int))) 1 = if S = 0 then 0 else 1 := fun i hi => by
    rw [show ((W.length : Int) - 1) - (i : Int) = ((W.length - 1 - i : Nat) : Int) by omega, bt_n (by omega) (by omega)]
    rcases hS with e | e
    · rw [e, Nat.zero_testBit, if_neg (by decide), if_pos rfl]
    · by_cases z : S = 0
      · rw [z, Nat.zero_testBit, if_neg (by decide), if_pos rfl]
      · rw [if_neg z, e, Nat.testBit_two_pow_sub_one, decide_eq_true (by omega), if_pos rfl]
  have key : ∀ (t : List Nat) (i : Nat) (G' : Hp), i ≤ W.length → W.drop i = t → (∀ i q, i ≠ 74 → i ≠ 76 → i ≠ 77 → (i ≠ 53 ∨ q ≠ 26) → G' i q = b i q) → (S = 0 → G' 53 26 = 0 ∧ ∀ q, G' 77 q = b 77 q) → (S ≠ 0 → G' 53 26 = (i : Int) ∧ ∀ q, G' 77 q = if q < i then ((W[q]?.getD 0 : Nat) : Int) else b 77 q) → V miX12_fewest (d + 4) 296 [(0, .ref 53), (1, I_ x1), (2, I_ x2), (3, I_ (W.length : Int)), (4, I_ (S : Int)), (5, I_ (i : Int))] [] n (W0 dy) G' 0 0 P := by
    intro t
    induction t with
    | nil =>
      intro i G' hi hr hg h0 h1
      have hl' := List.drop_eq_nil_iff.mp hr
      have e : i = W.length := by omega
      rw [e] at h1
      have fin := h G' hg h0 h1
      refine bX12_fewest_296 hn ⟨⟨by omega, by omega⟩, ⟨by omega, by omega⟩, fun _ => ?_, fun q => by omega⟩
      by_cases z : S = 0
      · rw [if_pos z] at fin
        rw [(h0 z).1]; exact fin
      · rw [if_neg z] at fin
        rw [(h1 z).1]; exact fin
    | cons x t ih =>
      intro i G' hi hr hg h0 h1
      obtain ⟨e, er, il⟩ := dropc hr
      have e96 : G' 96 ((i : Nat) : Int).toNat = (x : Int) := (hg 96 i (by decide) (by decide) (by decide) (Or.inl (by decide))).trans (h96 i x e)
      refine bX12_fewest_296 hn ⟨⟨by omega, by omega⟩, ⟨by omega, by omega⟩, fun q => by omega, fun _ => ?_⟩
      rw [bit i il, e96, show ((i : Nat) : Int) + 1 = ((i + 1 : Nat) : Int) by omega]
      refine ⟨fun q => ?_, fun q => ?_⟩
      · have z : S ≠ 0 := fun z => q (if_pos z)
        obtain ⟨g1, g2⟩ := h1 z
        refine ⟨⟨by omega, by omega⟩, ⟨by omega, by omega⟩, ⟨by omega, by omega⟩, ?_⟩
        rw [show (G' 53 26).toNat = i by omega]
        refine ih (i + 1) _ (by omega) er (fun j q j1 j2 j3 j4 => ?_) (fun w => absurd w z) (fun _ => ⟨?_, fun q => ?_⟩)
        · rw [up2_ap, if_neg (by omega), up2_i j3]; exact hg j q j1 j2 j3 j4
        · rw [up2_s, g1]; omega
        · rw [up2_i (by decide), up2_k]
          by_cases c : q = i
          · rw [if_pos c, if_pos (by omega), c, e]; rfl
          · rw [if_neg c, g2 q]
            by_cases c2 : q < i
            · rw [if_pos c2, if_pos (by omega)]
            · rw [if_neg c2, if_neg (by omega)]
      · have z : S = 0 := Decidable.byContradiction fun z => by rw [if_neg z] at q; exact absurd q (by decide)
        exact ih (i + 1) G' (by omega) er hg h0 (fun w => absurd z w)
  refine key W 0 _ (Nat.zero_le _) rfl (fun i q i1 i2 i3 i4 => ?_) (fun _ => ⟨up2_s, fun q => ?_⟩) (fun _ => ⟨up2_s, fun q => ?_⟩)
  · rw [up2_ap, if_neg (by omega)]; exact hF.1 i q i1 i2
  · rw [up2_i (by decide)]; exact hF.1 77 q (by decide) (by decide)
  · rw [up2_i (by decide), if_neg (by omega)]; exact hF.1 77 q (by decide) (by decide)
theorem sd_rzv {g g1 : Hp} (h : rz g1 = rz g) (s : Int) : sd g1 (v9 g1) s = sd g (v9 g) s := by
  unfold sd
  rw [ld_cg (la_rz h) (rz_of h (i := 53) (q := 5) rfl) (fun y _ => by unfold v9; rw [rz_of h (i := 57) (q := y) rfl, rz_of h (i := 63) (q := y) rfl]) s.toNat]
  rfl
theorem bareP_rz {g g1 : Hp} (h : rz g1 = rz g) (k : Nat) : bareP g1 k ↔ bareP g k := by
  unfold bareP
  simp only [sd_rzv h]
  rw [la_rz h, rz_row (i := 57) h (fun _ => rfl), rz_of h (i := 53) (q := 5) rfl, rz_row (i := 64) h (fun _ => rfl), rz_row (i := 65) h (fun _ => rfl), rz_row (i := 66) h (fun _ => rfl), rz_row (i := 67) h (fun _ => rfl)]
theorem wts_rz {g g1 : Hp} (h : rz g1 = rz g) (k : Nat) : ∀ m, wts g1 k m = wts g k m
  | 0 => rfl
  | m + 1 => by
    unfold wts Wt
    rw [wts_rz h k m, la_rz h, rz_row (i := 57) h (fun _ => rfl)]
theorem nW_rz {g g1 : Hp} (h : rz g1 = rz g) (k : Nat) : nW g1 k = nW g k := by
  unfold nW
  rw [wts_rz h, rz_of h (i := 53) (q := 5) rfl]
theorem wrN_rz {g g1 : Hp} (h : rz g1 = rz g) (k : Nat) : wrN g1 k = wrN g k := by
  have ew : ∀ y, wr g1 y = wr g y := fun y => by unfold wr; rw [len_rz h, rz_of h (i := 57) (q := y) rfl]
  unfold wrN
  rw [la_rz h, rz_of h (i := 53) (q := 5) rfl]
  simp only [ew]
theorem fsI_rz {g g1 : Hp} (h : rz g1 = rz g) (k : Nat) (x2 : Int) : fsI g1 k x2 = fsI g k x2 := by
  unfold fsI
  rw [nW_rz h, wrN_rz h, rz_of h (i := 57) (q := k) rfl, rz_of h (i := 60) (q := k) rfl]
theorem kp_rz {g g1 : Hp} (h : rz g1 = rz g) (W : List Nat) : rz (kp g1 W) = rz (kp g W) := rz_eq fun i q hl => by
  unfold kp
  by_cases c : i = 53 ∧ q = 26
  · rw [if_pos c, if_pos c]
  · rw [if_neg c, if_neg c]
    by_cases d : i = 77 ∧ q < W.length
    · rw [if_pos d, if_pos d]
    · rw [if_neg d, if_neg d]; exact rz_of h hl
theorem opFewest_cg {g g1 : Hp} (h : rz g1 = rz g) (x1 x2 : Int) : (opFewest g1 x1 x2).1 = (opFewest g x1 x2).1 ∧ rz (opFewest g1 x1 x2).2 = rz (opFewest g x1 x2).2 := by
  have st : ∀ T : Int, rz (up2 g1 53 0 T) = rz (up2 g 53 0 T) := fun T => by rw [rz_f0, rz_f0, h]
  have e5 := rz_of h (i := 53) (q := 5) rfl
  unfold opFewest
  by_cases c0 : x1 < 0 ∨ g 53 5 ≤ x1
  · rw [if_pos c0, if_pos (by rw [e5]; exact c0)]
    exact ⟨rfl, st _⟩
  · rw [if_neg c0, if_neg (by rw [e5]; exact c0), fsI_rz h]
    split
    · exact ⟨rfl, st _⟩
    · split
      · exact ⟨rfl, by show rz (up2 g1 53 26 0) = rz (up2 g 53 26 0); rw [rz_f26, rz_f26, h]⟩
      · by_cases c : x2 ≤ nW g x1.toNat ∧ bareP g x1.toNat
        · rw [if_pos c, if_pos ⟨by rw [nW_rz h]; exact c.1, (bareP_rz h _).mpr c.2⟩, wts_rz h, nW_rz h, e5]
          exact ⟨rfl, kp_rz h _⟩
        · rw [if_neg c, if_neg fun z => c ⟨by rw [← nW_rz h]; exact z.1, (bareP_rz h _).mp z.2⟩]
          exact ⟨rfl, st _⟩
theorem inv_fewest {a : Hp} (hI : Inv a) (x1 x2 : Int) : Inv (opFewest a x1 x2).2 := by
  unfold opFewest
  split
  · exact hI.st _
  · split
    · exact hI.st _
    · rename_i c0 c1
      split
      · exact ⟨hI.1, hI.2.1, hI.2.2.1, hI.2.2.2.1, ⟨by show (0 : Int) ≤ 0 ∧ (0 : Int) ≤ 14; omega, fun i hi => by have hi : (i : Int) < 0 := hi; omega⟩, hI.2.2.2.2.2⟩
      · split
        · have n14 : nW a x1.toNat ≤ 14 := by
            have z : fsI a x1.toNat x2 = 0 := Decidable.byContradiction c1
            unfold fsI at z
            repeat' split at z
            all_goals omega
          unfold nW at n14
          refine ⟨hI.1, hI.2.1, hI.2.2.1, hI.2.2.2.1, ⟨?_, fun i hi => ?_⟩, hI.2.2.2.2.2⟩
          · show 0 ≤ ((wts a x1.toNat (a 53 5).toNat).length : Int) ∧ ((wts a x1.toNat (a 53 5).toNat).length : Int) ≤ 14
            omega
          · have hi : (i : Int) < ((wts a x1.toNat (a 53 5).toNat).length : Int) := hi
            have il : i < (wts a x1.toNat (a 53 5).toNat).length := by omega
            have e : (wts a x1.toNat (a 53 5).toNat)[i]? = some ((wts a x1.toNat (a 53 5).toNat)[i]'il) := List.getElem?_eq_some_iff.mpr ⟨il, rfl⟩
            have m := (wts_in _).mp (List.mem_of_getElem? e)
            show 0 ≤ kp a (wts a x1.toNat (a 53 5).toNat) 77 i ∧ kp a (wts a x1.toNat (a 53 5).toNat) 77 i < a 53 5
            unfold kp
            rw [if_neg (by omega), if_pos ⟨rfl, il⟩, e]
            show 0 ≤ (((wts a x1.toNat (a 53 5).toNat)[i]'il : Nat) : Int) ∧ (((wts a x1.toNat (a 53 5).toNat)[i]'il : Nat) : Int) < a 53 5
            have := m.1
            omega
        · exact hI.st _
end Fewest5
