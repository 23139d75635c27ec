/-! CLEAR: the class -/
/-- the threads of H lengthened -/
def lgt (a : Hp) (H : List Nat) (m : Nat → Int) : Hp := fun i q => if i = 62 ∧ q ∈ H then a 62 q + m q else a i q
def clrS (a : Hp) (H : List Nat) (L : List (Nat × Nat)) : Nat → Nat → Nat → Int × Hp
  | 0, _, _ => (-1, up2 a 53 0 11)
  | f + 1, s, t => if (RS a H L (H.length + s + 1) H s (fun _ => 0) t).1 = 1 then ((s : Int), lgt a H (RS a H L (H.length + s + 1) H s (fun _ => 0) t).2.2)
    else if (RS a H L (H.length + s + 1) H s (fun _ => 0) t).1 = 2 then (-1, up2 a 53 0 10)
    else clrS a H L f (s + 1) (RS a H L (H.length + s + 1) H s (fun _ => 0) t).2.1
def opClear (a : Hp) (x1 : Int) : Int × Hp := if 0 < whT a x1 then (-1, up2 a 53 0 (whT a x1)) else clrS a (hgs a x1.toNat (a 53 5).toNat) (pall a x1.toNat (a 53 5).toNat) 6 0 0
theorem RS_found {a : Hp} {H : List Nat} {L : List (Nat × Nat)} : ∀ (f : Nat) (hs : List Nat) (s : Nat) (m : Nat → Int) (t : Nat), (∀ y, 0 ≤ m y) → (RS a H L f hs s m t).1 = 1 → okT a H (RS a H L f hs s m t).2.2 = true ∧ ∀ y, 0 ≤ (RS a H L f hs s m t).2.2 y
  | 0, _, _, _, _, _, h => absurd (show (0 : Int) = 1 from h) (by decide)
  | f + 1, hs, 0, m, t, hn, h => by
    have un : RS a H L (f + 1) hs 0 m t = leaf a H L m t := by cases hs <;> rfl
    rw [un] at h ⊢
    unfold leaf at h ⊢
    by_cases c : okT a H m = true
    · rw [if_pos c] at h ⊢
      by_cases d : 20000 ≤ t
      · rw [if_pos d] at h; exact absurd (show (2 : Int) = 1 from h) (by decide)
      · rw [if_neg d] at h ⊢
        by_cases e : cntP (hgtm a m) L = 0
        · rw [if_pos e]; exact ⟨c, hn⟩
        · rw [if_neg e] at h; exact absurd (show (0 : Int) = 1 from h) (by decide)
    · rw [if_neg c] at h; exact absurd (show (0 : Int) = 1 from h) (by decide)
  | _ + 1, [], _ + 1, _, _, _, h => absurd (show (0 : Int) = 1 from h) (by decide)
  | f + 1, x :: hs, s + 1, m, t, hn, h => by
    have un : RS a H L (f + 1) (x :: hs) (s + 1) m t = if (RS a H L f (x :: hs) s (inc m x) t).1 = 0 then RS a H L f hs (s + 1) m (RS a H L f (x :: hs) s (inc m x) t).2.1 else RS a H L f (x :: hs) s (inc m x) t := rfl
    rw [un] at h ⊢
    by_cases c : (RS a H L f (x :: hs) s (inc m x) t).1 = 0
    · rw [if_pos c] at h ⊢
      exact RS_found f _ _ _ _ hn h
    · rw [if_neg c] at h ⊢
      exact RS_found f _ _ _ _ (inc_nn hn) h
section Clear5
variable {d n : Nat} {dy : Nat → Shp} {g a G0 G : Hp} {P : Pst} {k0 : Nat} {l H : List Nat} {m : Nat → Int}
theorem inv_lgt (hI : Inv a) (hH : ∀ h, h ∈ H → 0 ≤ a 60 h ∧ a 62 h + m h ≤ 1000 ∧ 0 ≤ m h) : Inv (lgt a H m) := by
  refine ⟨hI.1, hI.2.1, fun k hk => ?_, hI.2.2.2⟩
  have hk : (k : Int) < a 53 5 := hk
  obtain ⟨⟨p1, p2, p3, p4⟩, hK⟩ := hI.2.2.1 k hk
  refine ⟨⟨p1, fun c => ⟨(p2 c).1, ?_⟩, fun c => ⟨?_, (p3 c).2⟩, p4⟩, hK⟩
  · have c : a 60 k < 0 := c
    show (if 62 = 62 ∧ k ∈ H then a 62 k + m k else a 62 k) = 0
    rw [if_neg fun z => by have := (hH k z.2).1; omega]
    exact (p2 c).2
  · have c : 0 ≤ a 60 k := c
    have := (p3 c).1
    show 1 ≤ (if 62 = 62 ∧ k ∈ H then a 62 k + m k else a 62 k) ∧ (if 62 = 62 ∧ k ∈ H then a 62 k + m k else a 62 k) ≤ 1000
    by_cases z : k ∈ H
    · have := hH k z
      rw [if_pos ⟨rfl, z⟩]; omega
    · rw [if_neg fun w => z w.2]; exact this
theorem Ca.lgt (hC : Ca n dy g a) {g' : Hp} (hg : ∀ i q, i < 100 → g' i q = g i q) (hu : ∀ j : Nat, (j : Int) < a 53 5 → ∀ q, g' (g 3 j).toNat q = if j ∈ H ∧ q = 5 then a 62 j + m j else g (g 3 j).toNat q) : Ca n dy g' (lgt a H m) := by
  refine hC.pt (u := fun j q => if j ∈ H ∧ q = 5 then a 62 j + m j else g (g 3 j).toNat q) rfl ⟨hg 1 2 (by decide), (hg 1 3 (by decide)).trans hC.2.1.2⟩ (fun i q h1 _ => hg i q h1) (hg 1 11 (by decide)) ⟨rfl, rfl, fun i q h => ?_⟩ hu (fun j hj => ?_)
  · exact if_neg fun z => by omega
  · obtain ⟨⟨c3, c4, c5⟩, c6⟩ := hC.known hj
    refine CQ.re (hC.2.2.2.1 j hj) ⟨rfl, rfl, rfl, rfl⟩ (fun _ => rfl) (fun q hq => if_neg (by omega)) (fun _ => ⟨if_neg (by omega), if_neg (by omega)⟩) ⟨?_, ?_, ?_⟩ (fun c => ⟨⟨?_, ?_⟩, ?_, ?_⟩)
    · exact (if_neg (by omega)).trans c3
    · exact (if_neg (by omega)).trans c4
    · show (if j ∈ H ∧ 5 = 5 then a 62 j + m j else g (g 3 j).toNat 5) = if 62 = 62 ∧ j ∈ H then a 62 j + m j else a 62 j
      by_cases e : j ∈ H
      · rw [if_pos ⟨e, rfl⟩, if_pos ⟨rfl, e⟩]
      · rw [if_neg fun z => e z.1, if_neg fun z => e z.2]; exact c5
    · exact (if_neg (by omega)).trans (c6 c).1.1
    · exact (if_neg (by omega)).trans (c6 c).1.2
    · exact (if_neg (by omega)).trans (c6 c).2.1
    · exact (if_neg (by omega)).trans (c6 c).2.2
theorem cs_lengthenThreads (hC : Ca n dy G a) (hI : Inv a) (nd : H.Nodup) (e2 : G 11 2 = (H.length : Int)) (h60 : H.length ≤ 60) (hH : ∀ i h : Nat, H[i]? = some h → (h : Int) < a 53 5 ∧ G 12 i = G 3 h ∧ G 13 i = m h ∧ 0 ≤ a 60 h ∧ a 62 h + m h ≤ 1000 ∧ 0 ≤ m h) (h : ∀ G', Ca n dy G' (lgt a H m) → (∀ i q, i < 100 → G' i q = G i q) → P none n (W0 dy) G') : Runs miX0_lengthenThreads d [.ref 11] n (W0 dy) G P := by
  have hn := hC.1
  have key : ∀ (r : List Nat) (i : Nat) (G' : Hp), i ≤ H.length → H.drop i = r → (∀ j q, j < 100 → G' j q = G j q) → (∀ j : Nat, (j : Int) < a 53 5 → ∀ q, G' (G 3 j).toNat q = if j ∈ H.take i ∧ q = 5 then a 62 j + m j else G (G 3 j).toNat q) → V miX0_lengthenThreads d 2 [(0, .ref 11), (1, I_ (i : Int))] [] n (W0 dy) G' 0 0 P := by
    intro r
    induction r with
    | nil =>
      intro i G' hi hr hg hu
      have hl := List.drop_eq_nil_iff.mp hr
      have e := hg 11 2 (by decide)
      refine bX0_lengthenThreads_2 hn ⟨⟨by omega, by omega⟩, fun _ => h G' (hC.lgt hg ?_) hg, fun q => by omega⟩
      rw [List.take_of_length_le hl] at hu
      exact hu
    | cons x r ih =>
      intro i G' hi hr hg hu
      obtain ⟨e, er, il⟩ := dropc hr
      obtain ⟨xN, x12, x13, x60, x62, xm⟩ := hH i x e
      have e' := hg 11 2 (by decide)
      have b := hC.cell xN
      have r12 : G' 12 ((i : Nat) : Int).toNat = G 3 x := (hg 12 i (by decide)).trans x12
      have r13 : G' 13 ((i : Nat) : Int).toNat = m x := (hg 13 i (by decide)).trans x13
      have nt : x ∉ H.take i := fun z => by
        obtain ⟨j, ej⟩ := List.mem_iff_getElem?.mp z
        rw [List.getElem?_take] at ej
        split at ej
        · rename_i c
          exact nd_ne nd ej e (by omega) rfl
        · exact absurd ej (by simp)
      have r5 : G' (G 3 x).toNat 5 = a 62 x := by
        rw [hu x xN 5, if_neg fun z => nt z.1]; exact (hC.known xN).1.2.2
      have t62 := ((hI.2.2.1 x xN).1.2.2.1 x60).1
      refine bX0_lengthenThreads_2 hn ⟨⟨by omega, by omega⟩, fun q => by omega, fun _ => ⟨⟨by omega, by omega⟩, ?_⟩⟩
      rw [r12]
      refine ⟨(hC.2.2.2.1 x xN).pt (hI.2.2.1 x xN).2, fun v hv => ?_⟩
      rw [r5, r13] at hv
      rw [show ((i : Nat) : Int) + 1 = ((i + 1 : Nat) : Int) by omega]
      refine ⟨⟨by omega, by omega⟩, ih (i + 1) _ (by omega) er (fun j q hj => ?_) (fun j hj q => ?_)⟩
      · rw [up2_i (by omega)]; exact hg j q hj
      · rw [up2_ap]
        by_cases c : j = x
        · subst c
          have hm : j ∈ H.take (i + 1) := (mem_tk e).mpr (Or.inr rfl)
          by_cases q5 : q = 5
          · rw [if_pos ⟨rfl, q5⟩, if_pos ⟨hm, q5⟩]; exact hv
          · rw [if_neg fun z => q5 z.2, if_neg fun z => q5 z.2, hu j hj q, if_neg fun z => q5 z.2]
        · have ne : (G 3 j).toNat ≠ (G 3 x).toNat := fun z => c ((hC.ne hj xN).mp z)
          have hm : j ∈ H.take (i + 1) ↔ j ∈ H.take i := by rw [mem_tk e]; exact ⟨fun q => q.resolve_right c, Or.inl⟩
          rw [if_neg fun z => ne z.1, hu j hj q]
          simp only [hm]
  refine wX0_lengthenThreads hn (key H 0 G (Nat.zero_le _) rfl (fun _ _ _ => rfl) (fun j hj q => ?_))
  rw [if_neg fun z => by simp at z]
theorem HM.zero (hI : Inv a) : HM a k0 (fun _ => 0) [] := by
  obtain ⟨dp, hD⟩ := hI.dp
  refine ⟨fun c hc => by simp at hc, fun z hz => ?_⟩
  show hgtm a (fun _ => 0) z = hh a z + 0
  rw [Int.add_zero]
  exact hgt_cg hD (fun k _ => Int.add_zero _) 60 z hz
theorem cs_clear_loop {L : List (Nat × Nat)} {G1 : Hp} {WP : List (Nat × Nat)} {x1 : Int} (hC1 : Ca n dy G1 a) (hI : Inv a) (hCD : CD a G1 k0 H WP) (hW : ∀ m ch, HM a k0 m ch → ch.length ≤ 5 → ((∀ q, q ∈ WP → hgtm a m q.1 ≠ hgtm a m q.2) ↔ cntP (hgtm a m) L = 0)) : ∀ (f s t : Nat) (G : Hp), f + s = 6 → DY G1 G H (fun _ => 0) [] t → (∀ v a' G', clrS a H L f s t = (v, a') → Ca n dy G' a' → Kr G1 G' → P (some (I_ v)) n (W0 dy) G') → V miX11_clear (d + 9) 24 [(0, .ref 1), (1, I_ x1), (2, I_ (s : Int))] [] n (W0 dy) G 0 0 P := by
  have hn := hC1.1
  have hCD0 := hCD
  obtain ⟨⟨d1, d2, nd⟩, dH, -, -⟩ := hCD0
  have keep : ∀ {G' : Hp} {m : Nat → Int}, FD G1 G' H m → Ca n dy G' a ∧ Kr G1 G' := fun hf => ⟨hC1.keep fun i q hi => hf.1 i q (by unfold cl at hi; omega) (by unfold cl at hi; omega) (by unfold cl at hi; omega), fun i q hi => hf.1 i q (by omega) (by omega) (by omega)⟩
  intro f
  induction f with
  | zero =>
    intro s t G hs hD hP
    obtain ⟨cG, kG⟩ := keep hD.1
    refine bX11_clear_24 hn ⟨⟨by omega, by omega⟩, fun _ => wX11_none hn ⟨by decide, bX11_clear_76 hn (hP _ _ _ rfl (cG.st 11) (kG.up (by omega)))⟩, fun q => by omega⟩
  | succ f ih =>
    intro s t G hs hD hP
    have un : clrS a H L (f + 1) s t = if (RS a H L (H.length + s + 1) H s (fun _ => 0) t).1 = 1 then ((s : Int), lgt a H (RS a H L (H.length + s + 1) H s (fun _ => 0) t).2.2) else if (RS a H L (H.length + s + 1) H s (fun _ => 0) t).1 = 2 then (-1, up2 a 53 0 10) else clrS a H L f (s + 1) (RS a H L (H.length + s + 1) H s (fun _ => 0) t).2.1 := rfl
    rw [un] at hP
    clear un
    refine bX11_clear_24 hn ⟨⟨by omega, by omega⟩, fun q => by omega, fun _ => wX0_search hn ?_⟩
    have hok : okT a H (fun _ => 0) = true := okT_t.mpr fun h hh => by
      obtain ⟨i, e⟩ := List.mem_iff_getElem?.mp hh
      have := (dH i h e).2.2.2.2
      show a 62 h + 0 ≤ 1000
      omega
    rw [show d + 7 = (d + (5 - s)) + s + 2 by omega]
    refine (cs_lengthen (d := d + (5 - s)) hC1 hI hCD hW (H.length + s + 1)).1 0 s (fun _ => 0) [] t G _ (Nat.zero_le _) (by omega) (by show 0 + s ≤ 5; omega) hok (fun _ => Int.le_refl _) (HM.zero hI) hD fun G' hA => bX0_search_6 hn ?_
    have hA : After G1 H (fun _ => 0) [] (RS a H L (H.length + s + 1) H s (fun _ => 0) t) G' := hA
    show V miX11_clear (d + 9) 37 [(0, .ref 1), (1, I_ x1), (2, I_ (s : Int))] [I_ (RS a H L (H.length + s + 1) H s (fun _ => 0) t).1] n (W0 dy) G' 0 0 P
    have code := RS_code (a := a) (H := H) (L := L) (H.length + s + 1) H s (fun _ => 0) t
    have fnd := RS_found (a := a) (H := H) (L := L) (H.length + s + 1) H s (fun _ => 0) t (fun _ => Int.le_refl _)
    generalize RS a H L (H.length + s + 1) H s (fun _ => 0) t = R at *
    obtain ⟨-, a0, aF⟩ := hA
    refine bX11_clear_37 hn ⟨⟨by omega, by omega⟩, fun q => ⟨fun q2 => ?_, fun q2 => ?_⟩, fun q => ?_⟩
    · rw [if_neg q, if_neg q2] at hP
      rw [show ((s : Nat) : Int) + 1 = ((s + 1 : Nat) : Int) by omega]
      exact ih (s + 1) R.2.1 G' (by omega) (a0 (by omega)) hP
    · rw [if_neg q, if_pos q2] at hP
      obtain ⟨cG, kG⟩ := keep (aF (by omega))
      exact wX11_none hn ⟨by decide, bX11_clear_63 hn (hP _ _ _ rfl (cG.st 10) (kG.up (by omega)))⟩
    · rw [if_pos q] at hP
      have hf := aF (by omega)
      obtain ⟨cG, kG⟩ := keep hf
      obtain ⟨o1, o2⟩ := fnd q
      have fr := hf.1
      refine cs_lengthenThreads cG hI nd ((fr 11 2 (by decide) (by decide) (Or.inr (Or.inl rfl))).trans d1) d2 (m := R.2.2) (fun i h e => ?_) fun G2 cG2 kG2 => bX11_clear_50 hn (hP _ _ _ rfl cG2 fun i q hi => (kG2 i q (by omega)).trans (kG i q hi))
      obtain ⟨f12, fN, f60, fk, f62⟩ := dH i h e
      refine ⟨fN, ?_, hf.2 i h e, f60, okT_t.mp o1 h (List.mem_of_getElem? e), o2 h⟩
      rw [fr 12 i (by decide) (by decide) (Or.inl (by decide)), fr 3 h (by decide) (by decide) (Or.inl (by decide))]; exact f12
theorem cs_clear {x1 : Int} (hC : Ca n dy g a) (hI : Inv a) (h1 : i3 x1) (h : ∀ v a' g', opClear (up2 a 53 0 0) x1 = (v, a') → Ca n dy g' a' → Kr g g' → P (some (I_ v)) n (W0 dy) g') : Runs miX11_clear (d + 9) [.ref 1, I_ x1] n (W0 dy) g P := by
  have hn := hC.1
  have et := whT_st a 0 x1
  refine wX11_clear hn (cs_wholeTop hC hI h1 (fun G hCG hKG hp => ?_) (fun k G l e hk h0 hw ht hF => ?_))
  · refine bX11_clear_6 hn ⟨whT_i3 _ _, fun q => by omega, fun _ => h _ _ _ ?_ (hCG.st2 0 _) (hKG.up (by omega))⟩
    unfold opClear; rw [et]; exact if_pos hp
  · subst e
    have hC0 := hC.st 0
    have hI0 : Inv (up2 a 53 0 0) := hI
    have hF0 := hF.st (w := 0) hC
    have hK0 : Kr g (up2 g 1 3 0) := (Kr.refl g).up (by omega)
    have hk0 : (k : Int) < up2 a 53 0 0 53 5 := hk
    have h00 : up2 a 53 0 0 60 k < 0 := h0
    have hw0 : cWh (up2 a 53 0 0) k := hw
    have eop : opClear (up2 a 53 0 0) (k : Int) = clrS (up2 a 53 0 0) (hgs (up2 a 53 0 0) k (up2 a 53 0 0 53 5).toNat) (pall (up2 a 53 0 0) k (up2 a 53 0 0 53 5).toNat) 6 0 0 := by
      unfold opClear; exact if_neg (by rw [et, ht]; decide)
    rw [eop] at h
    refine bX11_clear_6 hn ⟨by decide, fun _ => ?_, fun q => absurd rfl q⟩
    generalize (up2 G 1 3 0) = G0 at hF0 ⊢
    generalize (up2 g 1 3 0) = g0 at hC0 hF0 hK0
    generalize (up2 a 53 0 0) = a0 at h hC0 hI0 hF0 hk0 h00 hw0
    clear hC hI hF et eop h0 hw hk ht
    have hN := hI0.1
    have nd := hF0.2.1.2.2
    have hm := hF0.2.2.2.2.2.1
    have hCG := hF0.ca hC0
    have hKG := hK0.trans hF0.kr
    refine cs_prepare hC0 hI0 hF0 h00 fun G1 hS hO hWD hz => bX11_clear_22 hn ?_
    have e3 : G1 3 = g0 3 := funext fun q => (hS 3 q (by decide)).trans (hF0.g3 q)
    have hC1 : Ca n dy G1 a0 := hCG.keep fun i q hi => hS i q (by unfold cl at hi; omega)
    obtain ⟨hnd, hnl⟩ := hgs_nd (a := a0) (k := k) (a0 53 5).toNat
    have hCD : CD a0 G1 k (hgs a0 k (a0 53 5).toNat) (wpl a0 l) := by
      refine ⟨⟨hO.1, by omega, hnd⟩, fun i h e => ?_, ⟨hWD.1, ?_⟩, fun p q e => ?_⟩
      · obtain ⟨m1, m2, m3, m4⟩ := (hgs_in _).mp (List.mem_of_getElem? e)
        refine ⟨by rw [e3]; exact (hO.2 i h e).1, by omega, m3, m2, m4⟩
      · have := wpl_len a0 l
        have := pairs435 hI0 nd hm 5
        omega
      · obtain ⟨q1, q2, -⟩ := wpl_in a0 l q nd (List.mem_of_getElem? e)
        exact ⟨⟨((hm _).mp q1).1, ((hm _).mp q2).1⟩, hWD.2 p q e⟩
    refine cs_clear_loop hC1 hI0 hCD (fun m ch hM hc => watch_ok hI0 h00 hw0 nd hm hM hc) 6 0 0 G1 rfl ⟨⟨fun _ _ _ _ _ => rfl, fun i h e => (hO.2 i h e).2⟩, ⟨hz.1, fun j c e => by simp at e⟩, hz.2.2, by rw [hz.2.1]; decide⟩ fun v a' G' e cG kG => h v a' G' e cG fun i q hi => (kG i q hi).trans ((hS i q (by omega)).trans (hKG i q hi))
end Clear5
