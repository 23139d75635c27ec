/-! CLEAR: the class's search, all of it -/
theorem RS_code {a : Hp} {H : List Nat} {L : List (Nat × Nat)} : ∀ (f : Nat) (hs : List Nat) (s : Nat) (m : Nat → Int) (t : Nat), (RS a H L f hs s m t).1 = 0 ∨ (RS a H L f hs s m t).1 = 1 ∨ (RS a H L f hs s m t).1 = 2
  | 0, _, _, _, _ => Or.inl rfl
  | _ + 1, _, 0, m, t => by
    show (leaf a H L m t).1 = 0 ∨ (leaf a H L m t).1 = 1 ∨ (leaf a H L m t).1 = 2
    unfold leaf
    repeat' split
    all_goals first | exact Or.inl rfl | exact Or.inr (Or.inl rfl) | exact Or.inr (Or.inr rfl)
  | _ + 1, [], _ + 1, _, _ => Or.inl rfl
  | f + 1, h :: hs, s + 1, m, t => by
    have un : RS a H L (f + 1) (h :: hs) (s + 1) m t = if (RS a H L f (h :: hs) s (inc m h) t).1 = 0 then RS a H L f hs (s + 1) m (RS a H L f (h :: hs) s (inc m h) t).2.1 else RS a H L f (h :: hs) s (inc m h) t := rfl
    rw [un]
    split
    · exact RS_code f _ _ _ _
    · exact RS_code f _ _ _ _
theorem inc_nn {m : Nat → Int} {c : Nat} (h : ∀ y, 0 ≤ m y) : ∀ y, 0 ≤ inc m c y := fun y => by
  have := h y
  unfold inc; split <;> omega
section Clear2
variable {d n : Nat} {dy : Nat → Shp} {a G1 : Hp} {k0 : Nat} {H : List Nat} {WP L : List (Nat × Nat)}
theorem HM.inc {m : Nat → Int} {ch : List Nat} {h : Nat} (hI : Inv a) (hh : (h : Int) < a 53 5) (h0 : 0 ≤ a 60 h) (hk : abv (a 60) k0 60 h = true) (hM : HM a k0 m ch) : HM a k0 (inc m h) (ch ++ [h]) := by
  obtain ⟨dp, hD⟩ := hI.dp
  refine ⟨fun c hc => ?_, fun z hz => ?_⟩
  · rcases List.mem_append.mp hc with w | w
    · exact hM.1 c w
    · have : c = h := by simpa using w
      rw [this]; exact ⟨hh, hk⟩
  · rw [hgtm_inc hI hh h0 hD _ z rfl hz, hM.2 z hz, sumL_app]
    show _ = _ + (_ + ((if abv (a 60) h 60 z = true then 1 else 0) + 0))
    omega
theorem DY.push {G : Hp} {m : Nat → Int} {ch : List Nat} {t i h : Nat} (nd : H.Nodup) (e : H[i]? = some h) (hD : DY G1 G H m ch t) : DY G1 (up2 (up2 (up2 G 14 ch.length (shl6 1 (h : Int))) 11 4 (G 11 4 + 1)) 13 i (G 13 i + 1)) H (inc m h) (ch ++ [h]) t := by
  obtain ⟨⟨fr, lg⟩, ⟨c4, c14⟩, c10, c9⟩ := hD
  refine ⟨⟨fun j q i1 i2 i3 => ?_, fun j x ex => ?_⟩, ⟨?_, fun j c ec => ?_⟩, ?_, ?_⟩
  · rw [up2_i i1, up2_ap, if_neg (by omega), up2_i i2]; exact fr j q i1 i2 i3
  · rw [up2_k]
    unfold inc
    by_cases c : j = i
    · rw [if_pos c]
      rw [c, e] at ex
      have ex : h = x := by simpa using ex
      rw [if_pos ex.symm, lg i h e, ex]
    · rw [if_neg c, up2_i (by decide), up2_i (by decide), lg j x ex, if_neg (nd_ne nd ex e c)]
  · rw [up2_i (by decide), up2_s, c4, List.length_append]; rfl
  · rw [up2_i (by decide), up2_i (by decide), up2_k]
    by_cases z : j < ch.length
    · rw [List.getElem?_append_left z] at ec
      rw [if_neg (by omega)]; exact c14 j c ec
    · rw [List.getElem?_append_right (by omega)] at ec
      have hlt := (List.getElem?_eq_some_iff.mp ec).1
      have hlt : j - ch.length < 1 := hlt
      rw [show j - ch.length = 0 by omega] at ec
      have ec : h = c := by simpa using ec
      rw [if_pos (by omega), ec]
  · rw [up2_i (by decide), up2_k, if_neg (by decide), up2_i (by decide)]; exact c10
  · rw [up2_i (by decide), up2_k, if_neg (by decide), up2_i (by decide)]; exact c9
theorem DY.pop {G : Hp} {m : Nat → Int} {ch : List Nat} {t i h : Nat} (nd : H.Nodup) (e : H[i]? = some h) (hD : DY G1 G H (inc m h) (ch ++ [h]) t) : DY G1 (up2 (up2 G 11 4 (G 11 4 - 1)) 13 i (G 13 i - 1)) H m ch t := by
  obtain ⟨⟨fr, lg⟩, ⟨c4, c14⟩, c10, c9⟩ := hD
  refine ⟨⟨fun j q i1 i2 i3 => ?_, fun j x ex => ?_⟩, ⟨?_, fun j c ec => ?_⟩, ?_, ?_⟩
  · rw [up2_i i1, up2_ap, if_neg (by omega)]; exact fr j q i1 i2 i3
  · rw [up2_k]
    have q := lg j x ex
    unfold inc at q
    by_cases c : j = i
    · rw [if_pos c]
      rw [c, e] at ex
      have ex : h = x := by simpa using ex
      rw [if_pos ex.symm, c] at q
      omega
    · rw [if_neg (nd_ne nd ex e c)] at q
      rw [if_neg c, up2_i (by decide), q]
  · rw [up2_i (by decide), up2_s, c4, List.length_append]; show (((ch.length + 1 : Nat) : Int)) - 1 = _; omega
  · rw [up2_i (by decide), up2_i (by decide)]
    have z := (List.getElem?_eq_some_iff.mp ec).1
    exact c14 j c (by rw [List.getElem?_append_left z]; exact ec)
  · rw [up2_i (by decide), up2_k, if_neg (by decide)]; exact c10
  · rw [up2_i (by decide), up2_k, if_neg (by decide)]; exact c9
/-- what a step of the search leaves -/
def After (G1 : Hp) (H : List Nat) (m : Nat → Int) (ch : List Nat) (R : Srch) (G' : Hp) : Prop := G' 11 4 = (ch.length : Int) ∧ (R.1 = 0 → DY G1 G' H m ch R.2.1) ∧ (R.1 ≠ 0 → FD G1 G' H R.2.2)
theorem cs_lengthen (hC1 : Ca n dy G1 a) (hI : Inv a) (hCD : CD a G1 k0 H WP) (hW : ∀ m ch, HM a k0 m ch → ch.length ≤ 5 → ((∀ q, q ∈ WP → hgtm a m q.1 ≠ hgtm a m q.2) ↔ cntP (hgtm a m) L = 0)) : ∀ f : Nat,
    (∀ (i s : Nat) (m : Nat → Int) (ch : List Nat) (t : Nat) (G : Hp) (P : Pst), i ≤ H.length → (H.length - i) + s + 1 ≤ f → ch.length + s ≤ 5 → okT a H m = true → (∀ y, 0 ≤ m y) → HM a k0 m ch → DY G1 G H m ch t → (∀ G', After G1 H m ch (RS a H L f (H.drop i) s m t) G' → P (some (I_ (RS a H L f (H.drop i) s m t).1)) n (W0 dy) G') → Runs miX0_lengthen (d + s + 2) [.ref 11, I_ (i : Int), I_ (s : Int)] n (W0 dy) G P) ∧
    (∀ (i s : Nat) (m : Nat → Int) (ch : List Nat) (t : Nat) (G : Hp) (P : Pst) (x1 : Int), i ≤ H.length → (H.length - i) + (s + 1) + 1 ≤ f → ch.length + (s + 1) ≤ 5 → okT a H m = true → (∀ y, 0 ≤ m y) → HM a k0 m ch → DY G1 G H m ch t → (∀ G', After G1 H m ch (RS a H L f (H.drop i) (s + 1) m t) G' → P (some (I_ (RS a H L f (H.drop i) (s + 1) m t).1)) n (W0 dy) G') → V miX0_lengthen (d + s + 3) 31 [(0, .ref 11), (1, I_ x1), (2, I_ ((s + 1 : Nat) : Int)), (3, I_ (i : Int))] [] n (W0 dy) G 0 0 P) := by
  have hn := hC1.1
  have hN := hI.1
  have hCD0 := hCD
  obtain ⟨⟨d1, d2, nd⟩, dH, -, -⟩ := hCD0
  intro f
  induction f with
  | zero => exact ⟨fun i s m ch t G P h1 h2 => by omega, fun i s m ch t G P x1 h1 h2 => by omega⟩
  | succ f ih =>
    have B : ∀ (i s : Nat) (m : Nat → Int) (ch : List Nat) (t : Nat) (G : Hp) (P : Pst) (x1 : Int), i ≤ H.length → (H.length - i) + (s + 1) + 1 ≤ f + 1 → ch.length + (s + 1) ≤ 5 → okT a H m = true → (∀ y, 0 ≤ m y) → HM a k0 m ch → DY G1 G H m ch t → (∀ G', After G1 H m ch (RS a H L (f + 1) (H.drop i) (s + 1) m t) G' → P (some (I_ (RS a H L (f + 1) (H.drop i) (s + 1) m t).1)) n (W0 dy) G') → V miX0_lengthen (d + s + 3) 31 [(0, .ref 11), (1, I_ x1), (2, I_ ((s + 1 : Nat) : Int)), (3, I_ (i : Int))] [] n (W0 dy) G 0 0 P := by
      intro i s m ch t G P x1 hi hf hc hok hnn hM hD hP
      have fr := hD.1.1
      have e2 : G 11 2 = (H.length : Int) := (fr 11 2 (by decide) (by decide) (Or.inr (Or.inl rfl))).trans d1
      by_cases il : i < H.length
      · have e : H[i]? = some (H[i]'il) := List.getElem?_eq_some_iff.mpr ⟨il, rfl⟩
        have hd : H.drop i = H[i]'il :: H.drop (i + 1) := List.drop_eq_getElem_cons il
        rw [hd] at hP
        generalize H[i]'il = h at e hP hd
        have un : RS a H L (f + 1) (h :: H.drop (i + 1)) (s + 1) m t = if (RS a H L f (h :: H.drop (i + 1)) s (inc m h) t).1 = 0 then RS a H L f (H.drop (i + 1)) (s + 1) m (RS a H L f (h :: H.drop (i + 1)) s (inc m h) t).2.1 else RS a H L f (h :: H.drop (i + 1)) s (inc m h) t := rfl
        rw [un] at hP
        obtain ⟨f12, fN, f60, fk, f62⟩ := dH i h e
        have hm := List.mem_of_getElem? e
        have e12 : G 12 ((i : Nat) : Int).toNat = G1 3 h := (fr 12 i (by decide) (by decide) (Or.inl (by decide))).trans f12
        have e13 : G 13 ((i : Nat) : Int).toNat = m h := hD.1.2 i h e
        have b := hC1.cell fN
        have pt : Pt n (W0 dy) (G1 3 h).toNat := (hC1.2.2.2.1 h fN).pt (hI.2.2.1 h fN).2
        have e5 : G (G1 3 h).toNat 5 = a 62 h := (fr _ 5 (by omega) (by omega) (by omega)).trans (hC1.known fN).1.2.2
        have e0 : G (G1 3 h).toNat 0 = (h : Int) := (fr _ 0 (by omega) (by omega) (by omega)).trans (hC1.2.2.2.1 h fN).2.1.1
        have t62 := ((hI.2.2.1 h fN).1.2.2.1 f60).1
        have mk := okT_t.mp hok h hm
        have mn := hnn h
        have c4 := hD.2.1.1
        refine bX0_lengthen_31 hn ⟨⟨by omega, by omega⟩, fun q => by omega, fun _ => ⟨⟨by omega, by omega⟩, ?_⟩⟩
        rw [e12, e5, e13]
        refine ⟨pt, ⟨by omega, by omega⟩, fun q => ?_, fun q => wX2_bit hn ⟨pt, ?_⟩⟩
        · have bad := RS_bad (a := a) (H := H) (L := L) f (h :: H.drop (i + 1)) s (inc m h) t ⟨h, hm, by unfold inc; rw [if_pos rfl]; omega⟩
          rw [if_pos bad.1, bad.2] at hP
          rw [show ((i : Nat) : Int) + 1 = ((i + 1 : Nat) : Int) by omega]
          exact ih.2 (i + 1) s m ch t G P x1 (by omega) (by omega) hc hok hnn hM hD hP
        · rw [e0]
          refine bX0_lengthen_78 hn ⟨⟨by omega, by omega⟩, shl6_r _ _, ⟨by omega, by omega⟩, ⟨by omega, by omega⟩, ⟨by rw [e13]; omega, by rw [e13]; omega⟩, ?_⟩
          rw [show ((s + 1 : Nat) : Int) - 1 = (s : Int) by omega, show (G 11 4).toNat = ch.length by omega]
          have hD2 := hD.push nd e
          have hok2 : okT a H (inc m h) = true := okT_t.mpr fun x hx => by
            have := okT_t.mp hok x hx
            unfold inc
            by_cases c : x = h
            · rw [if_pos c, c]; omega
            · rw [if_neg c]; exact this
          refine ih.1 i s (inc m h) (ch ++ [h]) t _ _ hi (by omega) (by rw [List.length_append]; show ch.length + 1 + s ≤ 5; omega) hok2 (inc_nn hnn) (hM.inc hI fN f60 fk) hD2 fun G' hA => ?_
          rw [hd] at hA ⊢
          obtain ⟨a4, a0, aF⟩ := hA
          rw [List.length_append] at a4
          have a4 : G' 11 4 = ((ch.length + 1 : Nat) : Int) := a4
          have code := RS_code (a := a) (H := H) (L := L) f (h :: H.drop (i + 1)) s (inc m h) t
          generalize RS a H L f (h :: H.drop (i + 1)) s (inc m h) t = R1 at *
          refine bX0_lengthen_107 hn ⟨⟨by omega, by omega⟩, ⟨by omega, by omega⟩, fun q => ⟨⟨by omega, by omega⟩, ?_, ?_⟩, fun q => ?_⟩
          · have := (a0 q).1.2 i h e
            have : G' 13 ((i : Nat) : Int).toNat = m h + 1 := by
              show G' 13 i = m h + 1
              rw [this]; unfold inc; rw [if_pos rfl]
            exact ⟨by omega, by omega⟩
          · rw [if_pos q] at hP
            rw [show ((i : Nat) : Int) + 1 = ((i + 1 : Nat) : Int) by omega]
            exact ih.2 (i + 1) s m ch R1.2.1 _ P x1 (by omega) (by omega) hc hok hnn hM ((a0 q).pop nd e) hP
          · rw [if_neg q] at hP
            refine hP _ ⟨?_, fun z => absurd z q, fun _ => ?_⟩
            · rw [up2_s, a4]; omega
            · obtain ⟨u1, u2⟩ := aF q
              refine ⟨fun j q i1 i2 i3 => ?_, fun j x ex => ?_⟩
              · rw [up2_ap, if_neg (by omega)]; exact u1 j q i1 i2 i3
              · rw [up2_i (by decide)]; exact u2 j x ex
      · have hd : H.drop i = [] := List.drop_eq_nil_iff.mpr (by omega)
        rw [hd] at hP
        refine bX0_lengthen_31 hn ⟨⟨by omega, by omega⟩, fun _ => hP G ⟨hD.2.1.1, fun _ => hD, fun z => absurd rfl z⟩, fun q => by omega⟩
    refine ⟨fun i s m ch t G P hi hf hc hok hnn hM hD hP => ?_, B⟩
    cases s with
    | zero =>
      have un : RS a H L (f + 1) (H.drop i) 0 m t = leaf a H L m t := by cases H.drop i <;> rfl
      rw [un] at hP
      unfold leaf at hP
      rw [if_pos hok] at hP
      refine wX0_lengthen hn ⟨by decide, fun _ => ⟨fun _ => cs_look hn hI hCD hD hM (by omega) (fun z => bX0_lengthen_28 hn ?_) (fun z hx G' hD' => bX0_lengthen_28 hn ?_) (fun z hx G' hD' => bX0_lengthen_28 hn ?_), fun q => absurd q (by decide)⟩, fun q => absurd q (by decide)⟩
      · rw [if_pos z] at hP
        exact hP G ⟨hD.2.1.1, fun w => absurd (show (2 : Int) = 0 from w) (by decide), fun _ => hD.1⟩
      · have nz : ¬ cntP (hgtm a m) L = 0 := fun w => by
          obtain ⟨q, hq, e⟩ := hx
          exact (hW m ch hM (by omega)).mpr w q hq e
        rw [if_neg (by omega), if_neg nz] at hP
        exact hP G' ⟨hD'.2.1.1, fun _ => hD', fun w => absurd rfl w⟩
      · have nz : cntP (hgtm a m) L = 0 := (hW m ch hM (by omega)).mp hx
        rw [if_neg (by omega), if_pos nz] at hP
        exact hP G' ⟨hD'.2.1.1, fun w => absurd (show (1 : Int) = 0 from w) (by decide), fun _ => hD'.1⟩
    | succ s =>
      have c4 := hD.2.1.1
      refine wX0_lengthen hn ⟨⟨by omega, by omega⟩, fun q => by omega, fun _ => ⟨fun _ => ?_, fun q => by omega⟩⟩
      exact B i s m ch t G P (i : Int) hi hf (by omega) hok hnn hM hD hP
end Clear2
