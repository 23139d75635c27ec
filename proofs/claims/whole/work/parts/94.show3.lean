/-! SHOW: the class's call; what it depends on -/
section Show3
variable {d n : Nat} {dy : Nat → Shp} {g a G : Hp} {P : Pst}
theorem Ca.text (hC : Ca n dy g a) {g' : Hp} {T : List Int} (hg : ∀ i q, i ≠ 38 → i ≠ 39 → i ≠ 40 → (i ≠ 37 ∨ (q ≠ 1 ∧ q ≠ 4)) → g' i q = g i q) (hT : TX 37 1 38 (g 38) g' T) : Ca n dy g' (wrT a T) := by
  obtain ⟨h0, ⟨h1, h2⟩, h3, h4, ⟨h5, h6⟩, h7, h8, h9⟩ := hC
  have ha : ∀ i q, i ≠ 78 → (i ≠ 53 ∨ q ≠ 29) → wrT a T i q = a i q := fun i q i1 i2 => by
    unfold wrT
    rw [if_neg (by omega), if_neg (by omega)]
  have e5 : wrT a T 53 5 = a 53 5 := ha 53 5 (by decide) (by decide)
  have e0 : wrT a T 53 0 = a 53 0 := ha 53 0 (by decide) (by decide)
  have e26 : wrT a T 53 26 = a 53 26 := ha 53 26 (by decide) (by decide)
  have e29 : wrT a T 53 29 = (T.length : Int) := if_pos ⟨rfl, rfl⟩
  have e3 : g' 3 = g 3 := funext fun q => hg 3 q (by decide) (by decide) (by decide) (Or.inl (by decide))
  have er : ∀ i, 54 ≤ i → i ≤ 76 → wrT a T i = a i := fun i i1 i2 => funext fun q => ha i q (by omega) (by omega)
  refine ⟨h0, ⟨?_, ?_⟩, fun t ht => ?_, fun k hk => ?_, ⟨?_, fun i hi => ?_⟩, ?_, fun i hi hj => ?_, fun p hp => by rw [hg 23 p (by decide) (by decide) (by decide) (Or.inl (by decide))]; exact h9 p hp⟩
  · rw [hg 1 2 (by decide) (by decide) (by decide) (by decide), e5]; exact h1
  · rw [hg 1 3 (by decide) (by decide) (by decide) (by decide), e0]; exact h2
  · have d := h3 t ht
    unfold CT at d ⊢
    rw [hg 2 t (by decide) (by decide) (by decide) (Or.inl (by decide)), hg (41 + 2 * t) 0 (by omega) (by omega) (by omega) (by omega), hg (41 + 2 * t) 1 (by omega) (by omega) (by omega) (by omega), er 55 (by decide) (by decide), er 54 (by decide) (by decide), er 56 (by decide) (by decide)]
    refine ⟨d.1, ?_⟩
    rcases d.2 with e | ⟨e1, e2, e4, e6⟩
    · exact Or.inl e
    · exact Or.inr ⟨e1, e2, e4, fun q hq => by rw [hg (42 + 2 * t) q (by omega) (by omega) (by omega) (by omega)]; exact e6 q hq⟩
  · rw [e5] at hk
    have hp := h4 k hk
    have hb : 100 ≤ g 3 k ∧ g 3 k < n := hp.1
    unfold CP
    rw [e3]
    refine CQ.row (CQ.cong hp (Nat.le_refl _) rfl rfl (fun j _ => rfl) (fun q _ => ?_)) er
    exact hg _ q (by omega) (by omega) (by omega) (by omega)
  · rw [hg 1 11 (by decide) (by decide) (by decide) (by decide), e26]; exact h5
  · rw [e26] at hi
    rw [hg 36 i (by decide) (by decide) (by decide) (Or.inl (by decide)), ha 77 i (by decide) (Or.inl (by decide))]; exact h6 i hi
  · rw [e29]; exact hT.1
  · rw [e29] at hi
    have il : i < T.length := by omega
    have e : T[i]? = some (T[i]'il) := List.getElem?_eq_some_iff.mpr ⟨il, rfl⟩
    rw [hT.2.1 i _ e hj]
    unfold wrT
    rw [if_neg (by omega), if_pos ⟨rfl, il, hj⟩, e]; rfl
theorem cs_show {x1 : Int} (hC : Ca n dy g a) (hI : Inv a) (h1 : i3 x1) (h : ∀ v a' g', opShow (up2 a 53 0 0) x1 = (v, a') → Ca n dy g' a' → Kr g g' → P (some (I_ v)) n (W0 dy) g') : Runs miX11_show (d + 6) [.ref 1, I_ x1] n (W0 dy) g P := by
  have hn := hC.1
  refine wX11_show hn (cs_topGiven hC hI h1 ⟨fun c => ?_, fun c => ?_⟩)
  · refine bX11_show_5 hn ⟨fun q => absurd q (Nat.lt_irrefl 0), fun _ => h _ _ _ ?_ (hC.st2 0 _) ((Kr.refl g).up (by omega))⟩
    unfold opShow; exact if_pos c
  · obtain ⟨c1, c2, c3⟩ := topI_0 c
    obtain ⟨k, rfl⟩ := exN c1
    have hb := hC.cell (k := k) c2
    have hC0 := hC.st 0
    have hI0 : Inv (up2 a 53 0 0) := hI
    have hK0 : Kr g (up2 g 1 3 0) := (Kr.refl g).up (by omega)
    have cr : topI (up2 a 53 0 0) (k : Int) = 0 := c
    show V miX11_show (d + 6) 5 [(0, .ref 1), (1, I_ (k : Int))] [.ref (up2 g 1 3 0 3 k).toNat] n (W0 dy) (up2 g 1 3 0) 0 0 P
    have hb0 : 0 < (up2 g 1 3 0 3 k).toNat := show 0 < (g 3 k).toNat by omega
    have hk0 : (k : Int) < up2 a 53 0 0 53 5 := c2
    generalize (up2 g 1 3 0) = g0 at hC0 hK0 hb0 ⊢
    generalize (up2 a 53 0 0) = a0 at h hC0 hI0 cr hk0
    have eop : opShow a0 (k : Int) = (((txF a0 60 k).length : Int), wrT a0 (txF a0 60 k)) := by
      unfold opShow; exact if_neg (by rw [cr]; omega)
    rw [eop] at h
    obtain ⟨dp, hD⟩ := hI0.dp
    have hN := hI0.1
    have tl3 := txF_3600 (f := 60) hI0 hk0
    have S0 : SW g0 (g0 38) (up2 (up2 g0 37 1 0) 37 4 0) [] [] := by
      refine ⟨fun i q i1 i2 i3 i4 => ?_, ⟨?_, fun i x e => by simp at e, fun i _ => ?_⟩, ?_, fun i p e => by simp at e⟩
      · rw [up2_ap, if_neg (by omega), up2_ap, if_neg (by omega)]
      · rw [up2_k, if_neg (by decide), up2_s]; rfl
      · rw [up2_i (by decide), up2_i (by decide)]
      · rw [up2_s]; rfl
    have fin : ∀ (G' : Hp) (t : Int), 0 ≤ t → t ≤ 180 → SW g0 (g0 38) G' (txF a0 60 k) [] → V miX8_tell (d + 5) 17 [(0, .ref 37), (1, .ref (g0 3 k).toNat), (2, I_ t)] [] n (W0 dy) G' 0 0 (fun v n' S' g' => V miX11_show (d + 6) 20 [(0, .ref 1), (1, I_ (k : Int)), (2, .ref (g0 3 k).toNat)] (v.toList ++ []) n' S' g' 0 0 P) := fun G' t t1 t2 S => by
      have s3 : G' 37 4 = 0 := S.2.2.1
      have ret : V miX11_show (d + 6) 20 [(0, .ref 1), (1, I_ (k : Int)), (2, .ref (g0 3 k).toNat)] [I_ (G' 37 1)] n (W0 dy) G' 0 0 P := by
        rw [S.2.1.1]
        exact bX11_show_20 hn (h _ _ _ rfl (hC0.text S.1 S.2.1) fun i q hi => (S.1 i q (by omega) (by omega) (by omega) (by omega)).trans (hK0 i q hi))
      exact bX8_tell_17 hn ⟨⟨by omega, by omega⟩, fun _ => ret, fun _ => ⟨fun _ => ret, fun q => by omega⟩⟩
    refine bX11_show_5 hn ⟨fun _ => wX8_tell hn ?_, fun q => by omega⟩
    refine cs_tellPart hC0 hI0 hk0 S0 (by decide) (by decide) (fun lf G1 S1 => bX8_tell_15 hn ?_) (fun rd G1 S1 => bX8_tell_15 hn ?_)
    · refine fin G1 0 (by decide) (by decide) ?_
      have e : txF a0 60 k = leafT a0 k := if_neg lf
      rw [e]; exact S1
    · have e : txF a0 60 k = [40] ++ tailT a0 60 k := by
        have e : txF a0 60 k = [40] ++ sdT (txF a0 59) (a0 62) (a0 66 k) ++ midT a0 k ++ sdT (txF a0 59) (a0 62) (a0 67 k) ++ [41] := if_pos rd
        unfold tailT
        rw [e]
        simp only [List.append_assoc]
        rfl
      have rb := (ld_b hI0 (v := rodc a0) (B := 1) (by decide) (fun y _ => by unfold rodc; split <;> omega) k)
      have tl2 : (tailT a0 60 k).length ≤ 3600 := by
        unfold tailT
        rw [List.length_drop]; omega
      refine tl hC0 hI0 hD 60 k G1 _ [] 0 hk0 rd (by omega) (by show 1 + _ ≤ 4800; omega) (Nat.zero_le _) (by decide) (by omega) S1 fun G2 S2 => ?_
      refine fin G2 _ (by omega) (by omega) ?_
      rw [e]; exact S2
theorem sdT_cg {F F' : Nat → List Int} {th th' : Nat → Int} (e1 : ∀ y, F y = F' y) (e2 : th = th') (s : Int) : sdT F th s = sdT F' th' s := by
  unfold sdT
  rw [e1, e2]
theorem txF_rz {g1 : Hp} (h : rz g1 = rz g) : ∀ f x : Nat, txF g1 f x = txF g f x
  | 0, _ => rfl
  | f + 1, x => by
    have e62 := rz_row (i := 62) h (fun _ => rfl)
    have un : ∀ b : Hp, txF b (f + 1) x = if b 57 x = 2 ∨ b 57 x = 3 then [40] ++ sdT (txF b f) (b 62) (b 66 x) ++ midT b x ++ sdT (txF b f) (b 62) (b 67 x) ++ [41] else leafT b x := fun _ => rfl
    rw [un, un, sdT_cg (txF_rz h f) e62, sdT_cg (txF_rz h f) e62]
    unfold midT leafT
    rw [rz_of h (i := 57) (q := x) rfl, rz_of h (i := 63) (q := x) rfl, rz_of h (i := 64) (q := x) rfl, rz_of h (i := 65) (q := x) rfl, rz_of h (i := 66) (q := x) rfl, rz_of h (i := 67) (q := x) rfl]
theorem wrT_rz {g1 : Hp} (h : rz g1 = rz g) (T : List Int) : rz (wrT g1 T) = rz (wrT g T) := rz_eq fun i q hl => by
  unfold wrT
  by_cases c : i = 53 ∧ q = 29
  · rw [if_pos c, if_pos c]
  · rw [if_neg c, if_neg c]
    by_cases d : i = 78 ∧ q < T.length ∧ q < 600
    · rw [if_pos d, if_pos d]
    · rw [if_neg d, if_neg d]; exact rz_of h hl
theorem opShow_cg {g g1 : Hp} (h : rz g1 = rz g) (x1 : Int) : (opShow g1 x1).1 = (opShow g x1).1 ∧ rz (opShow g1 x1).2 = rz (opShow g x1).2 := by
  unfold opShow
  rw [topI_rz h, txF_rz h]
  split
  · exact ⟨rfl, by show rz (up2 g1 53 0 _) = rz (up2 g 53 0 _); rw [rz_f0, rz_f0, h]⟩
  · exact ⟨rfl, wrT_rz h _⟩
theorem inv_show {a : Hp} (hI : Inv a) (x1 : Int) (h1 : i3 x1) : Inv (opShow a x1).2 := by
  unfold opShow
  by_cases c : 0 < topI a x1
  · rw [if_pos c]; exact hI.st _
  · rw [if_neg c]
    obtain ⟨c1, c2, c3⟩ := topI_0 (topI_le (a := a) (x1 := x1) (by omega))
    have tl := txF_3600 (f := 60) hI (x := x1.toNat) (by omega)
    refine ⟨hI.1, hI.2.1, fun k hk => hI.2.2.1 k hk, hI.2.2.2.1, hI.2.2.2.2.1, ?_⟩
    show 0 ≤ ((txF a 60 x1.toNat).length : Int) ∧ ((txF a 60 x1.toNat).length : Int) ≤ 100000
    omega
end Show3
