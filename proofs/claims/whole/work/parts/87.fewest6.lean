/-! FEWEST: the reference's call -/
section Fewest6
variable {d n : Nat} {dy : Nat → Shp} {g a b G : Hp} {P : Pst} {k : Nat}
theorem lnv_rz {g g1 : Hp} (h : rz g1 = rz g) (y : Nat) : lnv g1 (g1 63) y = lnv g (g 63) y := by
  rw [lnv_len, lnv_len, len_rz h]
theorem rs_fewest {x1 x2 : Int} (hn : 100 ≤ n) (hI : Inv g) (h1 : i3 x1) (h2 : i3 x2) (h : ∀ v g' a', opFewest (up2 (up2 g 53 1 0) 53 0 0) x1 x2 = (v, a') → rz g' = rz a' → Kc (up2 (up2 g 53 1 0) 53 0 0) g' → P (some (I_ v)) n (W0 dy) g') : Runs miX12_fewest (d + 4) [.ref 53, I_ x1, I_ x2] n (W0 dy) g P := by
  have hI1 : Inv (up2 (up2 g 53 1 0) 53 0 0) := hI
  refine wX12_fewest hn ?_
  generalize (up2 (up2 g 53 1 0) 53 0 0) = a at h hI1 ⊢
  clear hI
  have hN := hI1.1
  have bad : (x1 < 0 ∨ a 53 5 ≤ x1) → V miX12_fewest (d + 4) 15 [(0, .ref 53), (1, I_ x1), (2, I_ x2)] [I_ 0] n (W0 dy) a 0 0 P := fun c =>
    bX12_fewest_15 hn ⟨by decide, fun q => absurd rfl q, fun _ => wX12_refuse hn ⟨by decide, bX12_fewest_23 hn (h _ _ _ (by unfold opFewest; exact if_pos c) rfl ((Kc.refl _).up (by omega)))⟩⟩
  refine wX12_isPart hn ⟨h1, fun q => bad (by omega), fun q => ⟨fun q2 => bad (by omega), fun q2 => ?_⟩⟩
  obtain ⟨k, rfl⟩ := exN q
  have hk : (k : Int) < a 53 5 := q2
  have eop : opFewest a (k : Int) x2 = if fsI a k x2 ≠ 0 then (-1, up2 a 53 0 (fsI a k x2)) else if x2 = 0 then (0, up2 a 53 26 0) else if x2 ≤ nW a k ∧ bareP a k then (nW a k, kp a (wts a k (a 53 5).toNat)) else (-1, up2 a 53 0 11) := by
    unfold opFewest; exact if_neg (by omega)
  rw [eop] at h
  clear eop bad q
  have no : ∀ (T : Int), fsI a k x2 = T → T ≠ 0 → ∀ G, rz G = rz a → Kc a G → P (some (I_ (-1))) n (W0 dy) (up2 G 53 0 T) := fun T e hT G z kc => by
    rw [if_pos (by rw [e]; exact hT), e] at h
    refine h _ _ _ rfl ?_ (kc.up (by omega))
    rw [rz_f0, rz_f0, z]
  refine bX12_fewest_15 hn ⟨by decide, fun _ => ?_, fun z => absurd z (by decide)⟩
  have rod : (a 57 k = 2 ∨ a 57 k = 3) → V miX12_fewest (d + 4) 29 [(0, .ref 53), (1, I_ (k : Int)), (2, I_ x2)] [I_ 1] n (W0 dy) a 0 0 P := fun rod => by
    have s1 : fsI a k x2 = if x2 < 0 ∨ 14 < x2 then 7 else if 0 ≤ a 60 k then 8 else if 0 < wrN a k then 9 else if 14 < nW a k then 10 else 0 := by unfold fsI; rw [if_neg (fun z => z rod)]
    have no7 : (x2 < 0 ∨ 14 < x2) → Runs miX12_refuse (d + 3) [.ref 53, I_ 7] n (W0 dy) a (fun v n' S' g' => V miX12_fewest (d + 4) 54 [(0, .ref 53), (1, I_ (k : Int)), (2, I_ x2)] (v.toList ++ []) n' S' g' 0 0 P) := fun c =>
      wX12_refuse hn ⟨by decide, bX12_fewest_54 hn (no 7 (by rw [s1, if_pos c]) (by decide) a rfl (Kc.refl a))⟩
    refine bX12_fewest_29 hn ⟨by decide, fun _ => ⟨h2, fun c => no7 (Or.inl c), fun c => ⟨fun c2 => ⟨⟨by omega, by omega⟩, fun c3 => ?_, fun c3 => ?_⟩, fun c2 => no7 (Or.inr c2)⟩⟩, fun z => absurd z (by decide)⟩
    · have c3 : a 60 k < 0 := c3
      rw [if_neg (by omega), if_neg (by omega)] at s1
      refine rs_allThere hn hI1 fun G0 r hL0 hO0 h760 h750 => bX12_fewest_75 hn ?_
      have e50 : G0 53 5 = a 53 5 := hL0.1 53 5 (by omega) (by omega) (by omega) (by omega) (by omega)
      refine rs_marks hn (hL0.rf hI1) (by omega) fun G1 m1 m2 => bX12_fewest_80 hn ?_
      obtain ⟨hL1, hM1⟩ := hL0.marks m1 m2
      refine sp_wrongRods hn hI1 (VB.own hI1) hL1 hM1 ?_
      have ew : wrs a (a 63) k (a 53 5).toNat = wrN a k := by
        unfold wrs wrN
        simp only [wrv_wr]
      rw [ew]
      have wb := wrN_b hI1 k
      refine bX12_fewest_84 hn ⟨⟨by omega, by omega⟩, fun c4 => ?_, fun c4 => ?_⟩
      · rw [if_neg (by omega)] at s1
        have lev : ∀ y : Nat, y < (a 53 5).toNat → abv (a 60) k 60 y = true → (a 57 y = 2 ∨ a 57 y = 3) → lnv a (a 63) y = 0 := (wrs_0 (a 63) k _).mp (by rw [ew]; omega)
        -- the weights
        have key : ∀ (t i : Nat) (G' : Hp), (t : Int) + i = a 53 5 → (∀ i q, i ≠ 96 → G' i q = G1 i q) → (∀ j x : Nat, (wts a k i)[j]? = some x → G' 96 j = (x : Int)) → V miX12_fewest (d + 4) 99 [(0, .ref 53), (1, I_ (k : Int)), (2, I_ x2), (3, I_ ((wts a k i).length : Int)), (4, I_ (i : Int))] [] n (W0 dy) G' 0 0 P := by
          intro t
          induction t with
          | zero =>
            intro i G' hi hG h96
            have f5 : G' 53 5 = a 53 5 := (hG 53 5 (by decide)).trans (hL1.1 53 5 (by omega) (by omega) (by omega) (by omega) (by omega))
            have ei : i = (a 53 5).toNat := by omega
            rw [ei] at h96 ⊢
            have en : nW a k = ((wts a k (a 53 5).toNat).length : Int) := rfl
            have nb := nW_b hI1 k
            have hz : rz G' = rz a := (rz_eq fun i q hl => hG i q (by unfold rl at hl; simp at hl; omega)).trans hL1.rz
            have kc : Kc a G' := fun i q hi => (hG i q (by omega)).trans (hL1.kc i q hi)
            refine bX12_fewest_99 hn ⟨⟨by omega, by omega⟩, fun _ => ⟨⟨by omega, by omega⟩, fun c5 => ?_, fun c5 => ?_⟩, fun q => by omega⟩
            · rw [if_neg (by omega)] at s1
              rw [if_neg (by rw [s1]; decide)] at h
              have sf : shl3 1 ((wts a k (a 53 5).toNat).length : Int) - 1 = ((2 ^ (wts a k (a 53 5).toNat).length - 1 : Nat) : Int) := shl_full ⟨(wts a k (a 53 5).toNat).length, by omega⟩
              rw [sf]
              clear sf
              have g5 : G' 53 5 = a 53 5 := f5
              have ewts : wts a k (a 53 5).toNat = wts G' k (G' 53 5).toNat := by rw [wts_rz hz, f5]
              have hB : HB G' k (wts a k (a 53 5).toNat) r := by
                refine ⟨hI1.cg hz, by omega, ewts, by omega, ?_, fun y hy => ?_, h96, fun y hy ha rd => ?_⟩
                · refine hO0.mv f5 (la_rz hz) (funext fun q => ?_)
                  rw [hG 71 q (by decide), m1 71 q (by decide)]
                · rw [hG 75 y (by decide), la_rz hz]; exact hM1 y (by omega)
                · rw [lnv_rz hz]
                  rw [la_rz hz] at ha
                  rw [rz_row (i := 57) hz (fun _ => rfl)] at rd
                  exact lev y (by omega) ha rd
              have hF : FS G' G' k (wts a k (a 53 5).toNat) r := ⟨fun _ _ _ _ => rfl, fun y hy _ => by rw [hG 76 y (by decide), m1 76 y (by decide)]; exact h760 y (by omega)⟩
              have ebp := bareP_rz hz k
              generalize wts a k (a 53 5).toNat = W at *
              obtain ⟨p1, p2⟩ := pow14 ⟨W.length, by omega⟩
              have p1 : 2 ^ W.length ≤ 16384 := p1
              have p2 : 1 ≤ 2 ^ W.length := p2
              have go := rs_sets (d := d) (dy := dy) (x1 := (k : Int)) (P := P) hn hB ⟨c, c2⟩ (fun G'' hF'' => ?_) (2 ^ W.length) G' (Nat.le_refl _) hF
              · have e1 : bst G' k W x2 (2 ^ W.length) = -1 := by unfold bst; rw [if_pos rfl]
                rw [e1, show ((2 ^ W.length : Nat) : Int) + (-1) = ((2 ^ W.length - 1 : Nat) : Int) by omega] at go
                exact go
              · have un : bst G' k W x2 0 = if x2 = 0 then 0 else if x2 ≤ (W.length : Int) ∧ bareP G' k then ((2 ^ W.length - 1 : Nat) : Int) else -1 := by
                  unfold bst
                  rw [if_neg (by omega)]
                  by_cases z : x2 = 0
                  · rw [if_pos ⟨rfl, z⟩, if_pos z]
                  · rw [if_neg fun w => z w.2, if_neg z]
                rw [un]
                have hz2 : rz G'' = rz a := (rz_eq fun i q hl => hF''.1 i q (by unfold rl at hl; simp at hl; omega) (by unfold rl at hl; simp at hl; omega)).trans hz
                have kc2 : Kc a G'' := fun i q hi => (hF''.1 i q (by omega) (by omega)).trans (kc i q hi)
                by_cases z : x2 = 0
                · rw [if_pos z] at h ⊢
                  refine bX12_fewest_172 hn ⟨by decide, fun _ => ⟨by decide, fun _ => ?_, fun w => absurd w (by decide)⟩, fun w => absurd w (by decide)⟩
                  refine rs_kept (S := 0) hn hB hF'' (Or.inl rfl) fun G3 k1 k2 _ => h _ _ _ rfl ?_ fun i q hi => (k1 i q (by omega) (by omega) (by omega) (by omega)).trans (kc i q hi)
                  refine rz_eq fun i q hl => ?_
                  obtain ⟨k3, k4⟩ := k2 rfl
                  by_cases w : i = 53 ∧ q = 26
                  · rw [w.1, w.2, k3, up2_s]
                  · rw [up2_ap, if_neg w]
                    refine Eq.trans ?_ (rz_of hz hl)
                    by_cases w2 : i = 77
                    · rw [w2]; exact k4 q
                    · exact k1 i q (by unfold rl at hl; simp at hl; omega) (by unfold rl at hl; simp at hl; omega) w2 (by omega)
                · rw [if_neg z] at h ⊢
                  by_cases w : x2 ≤ (W.length : Int) ∧ bareP a k
                  · rw [if_pos ⟨w.1, ebp.mpr w.2⟩]
                    rw [if_pos ⟨by omega, w.2⟩] at h
                    have Sn : 2 ^ W.length - 1 ≠ 0 := by
                      have := Nat.pow_le_pow_right (n := 2) (by decide) (show 1 ≤ W.length by omega)
                      omega
                    refine bX12_fewest_172 hn ⟨by decide, fun _ => ⟨⟨by omega, by omega⟩, fun _ => ?_, fun w => by omega⟩, fun w => absurd w (by decide)⟩
                    refine rs_kept (S := 2 ^ W.length - 1) hn hB hF'' (Or.inr rfl) fun G3 k1 _ k2 => ?_
                    rw [if_neg Sn, ← en]
                    obtain ⟨k3, k4⟩ := k2 Sn
                    refine h _ _ _ rfl ?_ fun i q hi => (k1 i q (by omega) (by omega) (by omega) (by omega)).trans (kc i q hi)
                    refine rz_eq fun i q hl => ?_
                    unfold kp
                    by_cases v : i = 53 ∧ q = 26
                    · rw [if_pos v, v.1, v.2, k3]
                    · rw [if_neg v]
                      by_cases v2 : i = 77
                      · rw [v2, k4 q]
                        by_cases v3 : q < W.length
                        · rw [if_pos v3, if_pos ⟨rfl, v3⟩]
                        · rw [if_neg v3, if_neg fun w => v3 w.2]
                          rw [v2] at hl
                          exact rz_of hz hl
                      · rw [if_neg fun w => v2 w.1]
                        exact (k1 i q (by unfold rl at hl; simp at hl; omega) (by unfold rl at hl; simp at hl; omega) v2 (by omega)).trans (rz_of hz hl)
                  · rw [if_neg fun v => w ⟨v.1, ebp.mp v.2⟩]
                    rw [if_neg fun v => w ⟨by have := v.1; omega, v.2⟩] at h
                    refine bX12_fewest_172 hn ⟨by decide, fun _ => ⟨by decide, fun w => absurd w (by decide), fun _ => wX12_refuse hn ⟨by decide, bX12_fewest_287 hn (h _ _ _ rfl ?_ (kc2.up (by omega)))⟩⟩, fun w => absurd w (by decide)⟩
                    rw [rz_f0, rz_f0, hz2]
            · rw [if_pos (by omega)] at s1
              exact wX12_refuse hn ⟨by decide, bX12_fewest_161 hn (no 10 s1 (by decide) G' hz kc)⟩
          | succ t ih =>
            intro i G' hi hG h96
            have g1 : ∀ j q, j ≠ 71 → j ≠ 72 → j ≠ 74 → j ≠ 75 → j ≠ 76 → j ≠ 96 → G' j q = a j q := fun j q c1 c2 c3 c4 c5 c6 => (hG j q c6).trans (hL1.1 j q c1 c2 c3 c4 c5)
            have f5 : G' 53 5 = a 53 5 := g1 53 5 (by omega) (by omega) (by omega) (by omega) (by omega) (by omega)
            have f75 : G' 75 ((i : Nat) : Int).toNat = abvI (a 60) k i := (hG 75 i (by decide)).trans (hM1 i (by omega))
            have f57 : G' 57 ((i : Nat) : Int).toNat = a 57 i := g1 57 i (by omega) (by omega) (by omega) (by omega) (by omega) (by omega)
            have nl := (wts_nd (a := a) (k := k) i).2
            have skip : ¬ Wt a k i → V miX12_fewest (d + 4) 99 [(0, .ref 53), (1, I_ (k : Int)), (2, I_ x2), (3, I_ ((wts a k i).length : Int)), (4, I_ ((i : Int) + 1))] [] n (W0 dy) G' 0 0 P := fun z => by
              have e : wts a k (i + 1) = wts a k i := if_neg z
              rw [show ((i : Nat) : Int) + 1 = ((i + 1 : Nat) : Int) by omega, ← e]
              exact ih (i + 1) G' (by omega) hG (by rw [e]; exact h96)
            refine bX12_fewest_99 hn ⟨⟨by omega, by omega⟩, fun q => by omega, fun _ => ⟨⟨by omega, by omega⟩, ?_⟩⟩
            rw [f75, f57]
            refine ⟨fun q => skip fun z => ?_, fun q => ⟨fun q2 => ⟨⟨by omega, by omega⟩, ?_⟩, fun q2 => skip fun z => q2 z.2⟩⟩
            · unfold abvI at q
              rw [if_pos z.1] at q; omega
            · have ab := abvI_t q
              have e : wts a k (i + 1) = wts a k i ++ [i] := if_pos ⟨ab, q2⟩
              rw [show ((i : Nat) : Int) + 1 = ((i + 1 : Nat) : Int) by omega, show ((wts a k i).length : Int) + 1 = ((wts a k (i + 1)).length : Int) by rw [e, List.length_append]; rfl]
              refine ih (i + 1) _ (by omega) (fun j q hj => (up2_i hj).trans (hG j q hj)) fun j x ej => ?_
              show up2 G' 96 (wts a k i).length (i : Int) 96 j = (x : Int)
              rw [up2_k]
              rw [e] at ej
              generalize wts a k i = L at *
              by_cases c : j < L.length
              · rw [List.getElem?_append_left c] at ej
                rw [if_neg (by omega)]; exact h96 j x ej
              · rw [List.getElem?_append_right (by omega)] at ej
                have hlt := (List.getElem?_eq_some_iff.mp ej).1
                have hlt : j - L.length < 1 := hlt
                rw [show j - L.length = 0 by omega] at ej
                have ej : i = x := by simpa using ej
                rw [if_pos (by omega), ej]
        exact key (a 53 5).toNat 0 G1 (by omega) (fun _ _ _ => rfl) (fun j x e => by simp [wts] at e)
      · rw [if_pos c4] at s1
        exact wX12_refuse hn ⟨by decide, bX12_fewest_93 hn (no 9 s1 (by decide) G1 hL1.rz hL1.kc)⟩
    · have c3 : 0 ≤ a 60 k := c3
      rw [if_neg (by omega), if_pos c3] at s1
      exact wX12_refuse hn ⟨by decide, bX12_fewest_70 hn (no 8 s1 (by decide) a rfl (Kc.refl a))⟩
  refine wX12_isRod hn ⟨⟨by omega, by omega⟩, fun z => rod (Or.inl z), fun z => ⟨fun z2 => ?_, fun z2 => rod (Or.inr z2)⟩⟩
  have s1 : fsI a k x2 = 5 := by unfold fsI; rw [if_pos (fun w => w.elim z z2)]
  exact bX12_fewest_29 hn ⟨by decide, fun w => absurd rfl w, fun _ => wX12_refuse hn ⟨by decide, bX12_fewest_37 hn (no 5 s1 (by decide) a rfl (Kc.refl a))⟩⟩
end Fewest6
