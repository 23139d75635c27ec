/-! CLEAR: the reference, all of it -/
section Clear8
variable {d n : Nat} {dy : Nat → Shp} {g a G : Hp} {P : Pst}
theorem rs_hangs {k : Nat} {x1 : Int} {G3 : Hp} (hn : 100 ≤ n) (hI : Inv a) (hz : rz G3 = rz a) (hM : ∀ y : Nat, (y : Int) < a 53 5 → G3 75 y = abvI (a 60) k y) (h : ∀ G', (∀ i q, i ≠ 85 → G' i q = G3 i q) → (∀ i x : Nat, (hgs a k (a 53 5).toNat)[i]? = some x → G' 85 i = (x : Int)) → V miX12_clear d 97 [(0, .ref 53), (1, I_ x1), (2, I_ ((hgs a k (a 53 5).toNat).length : Int)), (3, I_ 0), (4, I_ 0)] [] n (W0 dy) G' 0 0 P) (hd : d = d - 1 + 1) : V miX12_clear d 35 [(0, .ref 53), (1, I_ x1), (2, I_ 0), (3, I_ 0)] [] n (W0 dy) G3 0 0 P := by
  have hN := hI.1
  have key : ∀ (t i : Nat) (G' : Hp), (t : Int) + i = a 53 5 → (∀ i q, i ≠ 85 → G' i q = G3 i q) → (∀ j x : Nat, (hgs a k i)[j]? = some x → G' 85 j = (x : Int)) → V miX12_clear (d - 1 + 1) 35 [(0, .ref 53), (1, I_ x1), (2, I_ ((hgs a k i).length : Int)), (3, I_ (i : Int))] [] n (W0 dy) G' 0 0 P := by
    intro t
    induction t with
    | zero =>
      intro i G' hi hG hx
      have f5 : G' 53 5 = a 53 5 := (hG 53 5 (by decide)).trans (rz_of hz (i := 53) (q := 5) rfl)
      refine bX12_clear_35 hn ⟨⟨by omega, by omega⟩, fun _ => ?_, fun q => by omega⟩
      rw [show i = (a 53 5).toNat by omega] at hx ⊢
      rw [← hd]
      exact h G' hG hx
    | succ t ih =>
      intro i G' hi hG hx
      have f5 : G' 53 5 = a 53 5 := (hG 53 5 (by decide)).trans (rz_of hz (i := 53) (q := 5) rfl)
      have f75 : G' 75 ((i : Nat) : Int).toNat = abvI (a 60) k i := (hG 75 i (by decide)).trans (hM i (by omega))
      have f60 : G' 60 ((i : Nat) : Int).toNat = a 60 i := (hG 60 i (by decide)).trans (by rw [rz_row (i := 60) hz (fun _ => rfl)])
      have f62 : G' 62 ((i : Nat) : Int).toNat = a 62 i := (hG 62 i (by decide)).trans (by rw [rz_row (i := 62) hz (fun _ => rfl)])
      have nl := (hgs_nd (a := a) (k := k) i).2
      have skip : ¬ (abv (a 60) k 60 i = true ∧ 0 ≤ a 60 i ∧ a 62 i < 1000) → V miX12_clear (d - 1 + 1) 35 [(0, .ref 53), (1, I_ x1), (2, I_ ((hgs a k i).length : Int)), (3, I_ ((i : Int) + 1))] [] n (W0 dy) G' 0 0 P := fun z => by
        have e : hgs a k (i + 1) = hgs a k i := if_neg z
        rw [show ((i : Nat) : Int) + 1 = ((i + 1 : Nat) : Int) by omega, ← e]
        exact ih (i + 1) G' (by omega) hG (by rw [e]; exact hx)
      refine bX12_clear_35 hn ⟨⟨by omega, by omega⟩, fun q => by omega, fun _ => ⟨⟨by omega, by omega⟩, ?_⟩⟩
      rw [f75, f60, f62]
      refine ⟨fun q => skip fun z => ?_, fun q => ⟨fun q2 => skip fun z => by omega, fun q2 => ⟨fun q3 => ⟨⟨by omega, by omega⟩, ?_⟩, fun q3 => skip fun z => by omega⟩⟩⟩
      · unfold abvI at q
        rw [if_pos z.1] at q; omega
      · have ab := abvI_t q
        have e : hgs a k (i + 1) = hgs a k i ++ [i] := if_pos ⟨ab, q2, q3⟩
        rw [show ((i : Nat) : Int) + 1 = ((i + 1 : Nat) : Int) by omega, show ((hgs a k i).length : Int) + 1 = ((hgs a k (i + 1)).length : Int) by rw [e, List.length_append]; rfl]
        refine ih (i + 1) _ (by omega) (fun j q hj => (up2_i hj).trans (hG j q hj)) fun j x ej => ?_
        show up2 G' 85 (hgs a k i).length (i : Int) 85 j = (x : Int)
        rw [up2_k]
        rw [e] at ej
        generalize hgs a k i = L at *
        by_cases c : j < L.length
        · rw [List.getElem?_append_left c] at ej
          rw [if_neg (by omega)]; exact hx j x ej
        · rw [List.getElem?_append_right (by omega)] at ej
          have hlt := (List.getElem?_eq_some_iff.mp ej).1
          have hlt : j - L.length < 1 := hlt
          rw [show j - L.length = 0 by omega] at ej
          have ej : i = x := by simpa using ej
          rw [if_pos (by omega), ej]
  rw [hd]
  exact key (a 53 5).toNat 0 G3 (by omega) (fun _ _ _ => rfl) (fun j x e => by simp [hgs] at e)
theorem rs_clear {x1 : Int} (hn : 100 ≤ n) (hI : Inv g) (h1 : i3 x1) (h : ∀ v g' a', opClear (up2 (up2 g 53 1 0) 53 0 0) x1 = (v, a') → rz g' = rz a' → Kc (up2 (up2 g 53 1 0) 53 0 0) g' → P (some (I_ v)) n (W0 dy) g') : Runs miX12_clear (d + 4) [.ref 53, I_ x1] n (W0 dy) g P := by
  have hI1 : Inv (up2 g 53 1 0) := hI
  refine wX12_clear hn ?_
  generalize (up2 g 53 1 0) = g1 at h hI1 ⊢
  clear hI
  have et := whT_st g1 0 x1
  refine sp_wholes hn hI1 h1 (fun G hG hp => ?_) (fun k G e hk h0 hw ht hG hM => ?_)
  · have hz : rz G = rz g1 := rz_eq fun i q hl => hG i q (by unfold rl at hl; simp at hl; omega)
    refine bX12_clear_11 hn ⟨whT_i3 _ _, fun q => by omega, fun _ => h _ _ _ (by unfold opClear; rw [et]; exact if_pos hp) ?_ ?_⟩
    · rw [rz_f0, up2_up, rz_f0, hz]
    · intro i q hi
      rw [up2_i (by omega), up2_i (by omega)]; exact hG i q (by omega)
  · subst e
    refine bX12_clear_11 hn ⟨by decide, fun _ => ?_, fun q => absurd q (by decide)⟩
    have hz : rz (up2 G 53 0 0) = rz (up2 g1 53 0 0) := by
      rw [rz_f0, rz_f0]
      exact congrArg (fun z => up2 z 53 0 0) (rz_eq fun i q hl => hG i q (by unfold rl at hl; simp at hl; omega))
    have hkc : Kc (up2 g1 53 0 0) (up2 G 53 0 0) := fun i q hi => by rw [up2_i (by omega), up2_i (by omega)]; exact hG i q (by omega)
    have hI2 : Inv (up2 g1 53 0 0) := hI1
    have hk2 : (k : Int) < up2 g1 53 0 0 53 5 := hk
    have h02 : up2 g1 53 0 0 60 k < 0 := h0
    have hM2 : ∀ y : Nat, (y : Int) < up2 g1 53 0 0 53 5 → up2 G 53 0 0 75 y = abvI (up2 g1 53 0 0 60) k y := hM
    have eop : opClear (up2 g1 53 0 0) (k : Int) = clrS (up2 g1 53 0 0) (hgs (up2 g1 53 0 0) k (up2 g1 53 0 0 53 5).toNat) (pall (up2 g1 53 0 0) k (up2 g1 53 0 0 53 5).toNat) 6 0 0 := by
      unfold opClear; exact if_neg (by rw [et, ht]; decide)
    rw [eop] at h
    generalize (up2 G 53 0 0) = G1 at hz hkc hM2 ⊢
    generalize (up2 g1 53 0 0) = a at h hz hkc hI2 hk2 h02 hM2
    clear eop et ht hw hG hM hk h0 hI1
    refine rs_toPairs hn hI2 h02 hz hM2 (fun G2 hR => bX12_clear_27 hn hR) fun G3 r hz3 hkc3 hO hP h75 => bX12_clear_31 hn ?_
    have hN := hI2.1
    refine rs_hangs hn hI2 hz3 (fun y hy => (h75 y).trans (hM2 y hy)) (fun G4 hG4 h85 => ?_) rfl
    have hz4 : rz G4 = rz a := (rz_eq fun i q hl => hG4 i q (by unfold rl at hl; simp at hl; omega)).trans hz3
    have hO4 : OD a G4 r := hO.mv rfl rfl (funext fun q => hG4 71 q (by decide))
    have hP4 : PA G4 (pall a k (a 53 5).toNat) := ⟨(hG4 53 35 (by decide)).trans hP.1, fun m p e => by rw [hG4 81 m (by decide), hG4 82 m (by decide)]; exact hP.2 m p e⟩
    have hL : ∀ p, p ∈ pall a k (a 53 5).toNat → (p.1 : Int) < a 53 5 ∧ (p.2 : Int) < a 53 5 := fun p hp => by
      have := pall_in k _ p hp
      omega
    have hlen : (pall a k (a 53 5).toNat).length ≤ 1770 := Nat.le_trans (pall_len hN.2 k _) (tri_b _ (by omega))
    obtain ⟨nd, nl⟩ := hgs_nd (a := a) (k := k) (a 53 5).toNat
    have hR : HR a G4 (hgs a k (a 53 5).toNat) (pall a k (a 53 5).toNat) r := ⟨hz4, hO4, hP4, hL, hlen, nd, by omega, fun i x e => by
      obtain ⟨m1, m2, m3, m4⟩ := (hgs_in _).mp (List.mem_of_getElem? e)
      exact ⟨h85 i x e, by omega, m3⟩⟩
    exact rs_clear_loop (d := d + 2) hn hI2 hR 6 0 0 G4 rfl (by decide) (fun _ _ _ _ => rfl) fun v a' g' e z k => h v g' a' e z fun i q hi => (k i q hi).trans ((hG4 i q (by omega)).trans ((hkc3 i q hi).trans (hkc i q hi)))
theorem hgs_rz {g1 : Hp} (h : rz g1 = rz g) (k : Nat) : ∀ m, hgs g1 k m = hgs g k m
  | 0 => rfl
  | m + 1 => by
    unfold hgs
    rw [hgs_rz h k m, la_rz h, rz_row (i := 62) h (fun _ => rfl)]
theorem hgtm_rz {g1 : Hp} (h : rz g1 = rz g) (m : Nat → Int) : hgtm g1 m = hgtm g m := by
  funext y
  unfold hgtm
  rw [la_rz h, rz_row (i := 62) h (fun _ => rfl)]
theorem leaf_rz {g1 : Hp} (h : rz g1 = rz g) (H : List Nat) (L : List (Nat × Nat)) (m : Nat → Int) (t : Nat) : leaf g1 H L m t = leaf g H L m t := by
  unfold leaf okT
  rw [hgtm_rz h, rz_row (i := 62) h (fun _ => rfl)]
theorem RS_rz {g1 : Hp} (h : rz g1 = rz g) (H : List Nat) (L : List (Nat × Nat)) : ∀ (f : Nat) (hs : List Nat) (s : Nat) (m : Nat → Int) (t : Nat), RS g1 H L f hs s m t = RS g H L f hs s m t
  | 0, _, _, _, _ => rfl
  | _ + 1, hs, 0, m, t => by
    have e1 : ∀ (a : Hp) (f : Nat), RS a H L (f + 1) hs 0 m t = leaf a H L m t := fun a f => by cases hs <;> rfl
    rw [e1, e1, leaf_rz h]
  | _ + 1, [], _ + 1, _, _ => rfl
  | f + 1, x :: hs, s + 1, m, t => by
    have un : ∀ a : Hp, RS a H L (f + 1) (x :: hs) (s + 1) m t = if (RS a H L f (x :: hs) s (inc m x) t).1 = 0 then RS a H L f hs (s + 1) m (RS a H L f (x :: hs) s (inc m x) t).2.1 else RS a H L f (x :: hs) s (inc m x) t := fun _ => rfl
    rw [un, un, RS_rz h H L f (x :: hs) s (inc m x) t, RS_rz h H L f hs (s + 1) m]
theorem lgt_rz {g1 : Hp} (h : rz g1 = rz g) (H : List Nat) (m : Nat → Int) : rz (lgt g1 H m) = rz (lgt g H m) := rz_eq fun i q hl => by
  unfold lgt
  by_cases c : i = 62 ∧ q ∈ H
  · rw [if_pos c, if_pos c, rz_of h (i := 62) (q := q) rfl]
  · rw [if_neg c, if_neg c]; exact rz_of h hl
theorem clrS_rz {g1 : Hp} (h : rz g1 = rz g) (H : List Nat) (L : List (Nat × Nat)) : ∀ f s t : Nat, (clrS g1 H L f s t).1 = (clrS g H L f s t).1 ∧ rz (clrS g1 H L f s t).2 = rz (clrS g H L f s t).2
  | 0, _, _ => ⟨rfl, by show rz (up2 g1 53 0 11) = rz (up2 g 53 0 11); rw [rz_f0, rz_f0, h]⟩
  | f + 1, s, t => by
    have un : ∀ a : Hp, clrS a H L (f + 1) s t = if (RS a H L (H.length + s + 1) H s (fun _ => 0) t).1 = 1 then ((s : Int), lgt a H (RS a H L (H.length + s + 1) H s (fun _ => 0) t).2.2) else if (RS a H L (H.length + s + 1) H s (fun _ => 0) t).1 = 2 then (-1, up2 a 53 0 10) else clrS a H L f (s + 1) (RS a H L (H.length + s + 1) H s (fun _ => 0) t).2.1 := fun _ => rfl
    rw [un, un, RS_rz h]
    split
    · exact ⟨rfl, lgt_rz h _ _⟩
    · split
      · exact ⟨rfl, by show rz (up2 g1 53 0 10) = rz (up2 g 53 0 10); rw [rz_f0, rz_f0, h]⟩
      · exact clrS_rz h H L f _ _
theorem opClear_cg {g g1 : Hp} (h : rz g1 = rz g) (x1 : Int) : (opClear g1 x1).1 = (opClear g x1).1 ∧ rz (opClear g1 x1).2 = rz (opClear g x1).2 := by
  unfold opClear
  rw [whT_rz h, hgs_rz h, pall_rz h, rz_of h (i := 53) (q := 5) rfl]
  split
  · exact ⟨rfl, by show rz (up2 g1 53 0 _) = rz (up2 g 53 0 _); rw [rz_f0, rz_f0, h]⟩
  · exact clrS_rz h _ _ 6 0 0
theorem inv_clrS {a : Hp} {H : List Nat} {L : List (Nat × Nat)} (hI : Inv a) (hH : ∀ h, h ∈ H → 0 ≤ a 60 h) : ∀ f s t : Nat, Inv (clrS a H L f s t).2
  | 0, _, _ => hI.st _
  | f + 1, s, t => by
    have un : clrS a H L (f + 1) s t = if (RS a H L (H.length + s + 1) H s (fun _ => 0) t).1 = 1 then ((s : Int), lgt a H (RS a H L (H.length + s + 1) H s (fun _ => 0) t).2.2) else if (RS a H L (H.length + s + 1) H s (fun _ => 0) t).1 = 2 then (-1, up2 a 53 0 10) else clrS a H L f (s + 1) (RS a H L (H.length + s + 1) H s (fun _ => 0) t).2.1 := rfl
    rw [un]
    split
    · rename_i c
      obtain ⟨o1, o2⟩ := RS_found (a := a) (H := H) (L := L) (H.length + s + 1) H s (fun _ => 0) t (fun _ => Int.le_refl _) c
      exact inv_lgt hI fun h hh => ⟨hH h hh, okT_t.mp o1 h hh, o2 h⟩
    · split
      · exact hI.st _
      · exact inv_clrS hI hH f _ _
theorem inv_clear {a : Hp} (hI : Inv a) (x1 : Int) : Inv (opClear a x1).2 := by
  unfold opClear
  split
  · exact hI.st _
  · exact inv_clrS hI (fun h hh => ((hgs_in _).mp hh).2.2.1) 6 0 0
end Clear8
