/-! BEARS, TILTS, WRONG: the reference -/
section Tilts2
variable {d n : Nat} {dy : Nat → Shp} {g a G : Hp} {P : Pst} {v : Nat → Int}
theorem rs_bears {x1 : Int} (hn : 100 ≤ n) (hI : Inv g) (h1 : i3 x1) (h : ∀ v g' a', opBears (up2 (up2 g 53 1 0) 53 0 0) x1 = (v, a') → rz g' = rz a' → Kc (up2 (up2 g 53 1 0) 53 0 0) g' → P (some (L_ v)) n (W0 dy) g') : Runs miX12_bears (d + 2) [.ref 53, I_ x1] n (W0 dy) g P := by
  have hI1 : Inv (up2 (up2 g 53 1 0) 53 0 0) := hI
  refine wX12_bears hn ?_
  generalize (up2 (up2 g 53 1 0) 53 0 0) = a at h hI1 ⊢
  have hN := hI1.1
  have bad : (x1 < 0 ∨ a 53 5 ≤ x1) → V miX12_bears (d + 2) 15 [(0, .ref 53), (1, I_ x1)] [I_ 0] n (W0 dy) a 0 0 P := fun c =>
    bX12_bears_15 hn ⟨by decide, fun q => absurd rfl q, fun _ => wX12_refuse hn ⟨by decide, bX12_bears_23 hn ⟨by decide, h _ _ _ (by unfold opBears; exact if_pos c) rfl ((Kc.refl _).up (by omega))⟩⟩⟩
  refine wX12_isPart hn ⟨h1, fun q => bad (by omega), fun q => ⟨fun q2 => bad (by omega), fun q2 => ?_⟩⟩
  refine bX12_bears_15 hn ⟨by decide, fun _ => rs_allThere hn hI1 fun G r hL _ _ _ => bX12_bears_29 hn ⟨by omega, ?_⟩, fun z => absurd z (by decide)⟩
  rw [hL.2 x1.toNat (by omega)]
  exact h _ _ _ (by unfold opBears; exact if_neg (by omega)) hL.rz hL.kc
theorem rs_tilts {x1 : Int} (hn : 100 ≤ n) (hI : Inv g) (h1 : i3 x1) (h : ∀ v g' a', opTilts (up2 (up2 g 53 1 0) 53 0 0) x1 = (v, a') → rz g' = rz a' → Kc (up2 (up2 g 53 1 0) 53 0 0) g' → P (some (I_ v)) n (W0 dy) g') : Runs miX12_tilts (d + 3) [.ref 53, I_ x1] n (W0 dy) g P := by
  have hI1 : Inv (up2 g 53 1 0) := hI
  refine wX12_tilts hn ?_
  generalize (up2 g 53 1 0) = g1 at h hI1 ⊢
  clear hI
  have hb := rodI_b g1 x1
  refine spX12_rodded hn hI1.1.2 h1 (bX12_tilts_11 hn ⟨?_, fun q => ?_, fun q => ?_⟩)
  · rcases hb.1 with e | e | e <;> rw [e] <;> decide
  · have c : rodI g1 x1 = 0 := by omega
    rw [c]
    obtain ⟨⟨c1, c2⟩, c3⟩ := hb.2 c
    obtain ⟨k, rfl⟩ := exN c1
    have hI2 : Inv (up2 g1 53 0 0) := hI1
    have ct : rodI (up2 g1 53 0 0) (k : Int) = 0 := c
    have c2' : (k : Int) < up2 g1 53 0 0 53 5 := c2
    have c3' : up2 g1 53 0 0 57 k = 2 ∨ up2 g1 53 0 0 57 k = 3 := c3
    generalize (up2 g1 53 0 0) = a at h hI2 ct c2' c3' ⊢
    clear q c c1 c2 c3 hI1 hb
    refine rs_allThere hn hI2 fun G r hL _ _ _ => bX12_tilts_27 hn (sp_tilt hn hI2 (VB.own hI2) hL c2' c3' (bX12_tilts_32 hn ?_))
    have eop : opTilts a (k : Int) = (if len a k = 0 then 0 else if 0 < len a k then 1 else 2, a) := by
      unfold opTilts; exact if_neg (by rw [ct]; omega)
    rw [eop] at h
    rw [lnv_len]
    have fin : ∀ v : Int, (if len a k = 0 then (0 : Int) else if 0 < len a k then 1 else 2) = v → P (some (I_ v)) n (W0 dy) G := fun v e => h _ _ _ (by rw [e]) hL.rz hL.kc
    clear h eop
    unfold sgI
    generalize len a k = m at fin ⊢
    by_cases z1 : m < 0
    · rw [if_pos z1]
      exact ⟨by decide, fun _ => ⟨fun z => by omega, fun _ => fin 2 (by rw [if_neg (by omega), if_neg (by omega)])⟩, fun z => by omega⟩
    · rw [if_neg z1]
      by_cases z2 : 0 < m
      · rw [if_pos z2]
        exact ⟨by decide, fun z => by omega, fun _ => fin 1 (by rw [if_neg (by omega), if_pos z2])⟩
      · rw [if_neg z2]
        exact ⟨by decide, fun _ => ⟨fun _ => fin 0 (by rw [if_pos (by omega)]), fun z => by omega⟩, fun z => by omega⟩
  · have e : up2 g1 53 0 (rodI g1 x1) = up2 (up2 g1 53 0 0) 53 0 (rodI g1 x1) := by rw [up2_up]
    rw [e]
    refine h _ _ _ ?_ rfl ((Kc.refl _).up (by omega))
    unfold opTilts; exact if_pos q
def wrv (a : Hp) (v : Nat → Int) (y : Nat) : Int := if (a 57 y = 2 ∨ a 57 y = 3) ∧ lnv a v y ≠ 0 then 1 else 0
theorem wrv_wr (a : Hp) (y : Nat) : wrv a (a 63) y = wr a y := by unfold wrv wr; rw [lnv_len]
def wrs (a : Hp) (v : Nat → Int) (K : Nat) (m : Nat) : Int := sumN (fun y => if abv (a 60) K 60 y = true then wrv a v y else 0) m
theorem sp_wrongRods {K : Nat} (hn : 100 ≤ n) (hI : Inv a) (hv : VB a v) (hL : LR a G v) (hM : ∀ y : Nat, (y : Int) < a 53 5 → G 75 y = abvI (a 60) K y) (h : P (some (I_ (wrs a v K (a 53 5).toNat))) n (W0 dy) G) : Runs miX12_wrongRods (d + 3) [.ref 53] n (W0 dy) G P := by
  have hN := hI.1
  have e5 : G 53 5 = a 53 5 := hL.1 53 5 (by omega) (by omega) (by omega) (by omega) (by omega)
  have key : ∀ t i : Nat, (t : Int) + i = a 53 5 → V miX12_wrongRods (d + 3) 4 [(0, .ref 53), (1, I_ (wrs a v K i)), (2, I_ (i : Int))] [] n (W0 dy) G 0 0 P := by
    intro t
    induction t with
    | zero =>
      intro i hi
      refine bX12_wrongRods_4 hn ⟨⟨by omega, by omega⟩, fun _ => ?_, fun q => by omega⟩
      rw [show i = (a 53 5).toNat by omega]; exact h
    | succ t ih =>
      intro i hi
      have nx : ∀ w : Int, (if abv (a 60) K 60 i = true then wrv a v i else 0) = w → V miX12_wrongRods (d + 3) 4 [(0, .ref 53), (1, I_ (wrs a v K i + w)), (2, I_ ((i : Int) + 1))] [] n (W0 dy) G 0 0 P := fun w e => by
        rw [show ((i : Nat) : Int) + 1 = ((i + 1 : Nat) : Int) by omega, ← e]
        exact ih (i + 1) (by omega)
      have em : G 75 ((i : Nat) : Int).toNat = abvI (a 60) K i := hM i (by omega)
      have e57 : G 57 ((i : Nat) : Int).toNat = a 57 i := hL.1 57 i (by omega) (by omega) (by omega) (by omega) (by omega)
      refine bX12_wrongRods_4 hn ⟨⟨by omega, by omega⟩, fun q => by omega, fun _ => ⟨by omega, fun q => ?_, fun q => ?_⟩⟩
      · rw [em] at q
        refine nx 0 (if_neg fun z => ?_)
        unfold abvI at q
        rw [if_pos z] at q; omega
      · rw [em] at q
        have ab := abvI_t q
        have rod : (a 57 i = 2 ∨ a 57 i = 3) → V miX12_wrongRods (d + 3) 27 [(0, .ref 53), (1, I_ (wrs a v K i)), (2, I_ (i : Int))] [I_ 1, I_ (wrs a v K i)] n (W0 dy) G 0 0 P := fun c => by
          refine bX12_wrongRods_27 hn ⟨by decide, fun z => absurd z (by decide), fun _ => sp_tilt hn hI hv hL (by omega) c (bX12_wrongRods_35 hn ⟨?_, fun z => nx 0 ?_, fun z => nx 1 ?_⟩)⟩
          · unfold sgI; split
            · decide
            · split <;> decide
          · rw [if_pos ab]
            refine if_neg fun y => y.2 ?_
            unfold sgI at z
            split at z
            · omega
            · split at z
              · omega
              · omega
          · rw [if_pos ab]
            refine if_pos ⟨c, fun y => z ?_⟩
            rw [y]; rfl
        refine wX12_isRod hn ⟨by omega, fun z => rod (by omega), fun z => ⟨fun z2 => ?_, fun z2 => rod (by omega)⟩⟩
        refine bX12_wrongRods_27 hn ⟨by decide, fun _ => nx 0 ?_, fun y => absurd rfl y⟩
        rw [if_pos ab]
        exact if_neg fun y => by omega
  exact wX12_wrongRods hn (key (a 53 5).toNat 0 (by omega))
theorem topI_i3 (a : Hp) (x1 : Int) : i3 (topI a x1) := by
  unfold topI; split
  · decide
  · split <;> decide
theorem topI_le {a : Hp} {x1 : Int} (q : topI a x1 ≤ 0) : topI a x1 = 0 := by
  unfold topI at q ⊢
  split at q
  · omega
  · rename_i z
    rw [if_neg z]
    split at q
    · omega
    · rename_i z2
      rw [if_neg z2]
theorem LR.marks {K : Nat} {G2 : Hp} (hL : LR a G v) (h1 : ∀ i q, i ≠ 75 → G2 i q = G i q) (h2 : ∀ y : Nat, (y : Int) < G 53 5 → G2 75 y = abvI (G 60) K y) : LR a G2 v ∧ ∀ y : Nat, (y : Int) < a 53 5 → G2 75 y = abvI (a 60) K y := by
  have e5 : G 53 5 = a 53 5 := hL.1 53 5 (by omega) (by omega) (by omega) (by omega) (by omega)
  have e60 : G 60 = a 60 := funext fun q => hL.1 60 q (by omega) (by omega) (by omega) (by omega) (by omega)
  refine ⟨⟨fun i q c1 c2 c3 c4 c5 => (h1 i q c4).trans (hL.1 i q c1 c2 c3 c4 c5), fun y hy => ?_⟩, fun y hy => ?_⟩
  · rw [h1 74 y (by omega)]; exact hL.2 y hy
  · rw [h2 y (by omega), e60]
theorem LR.rf (hI : Inv a) (hL : LR a G v) : RF G := ⟨(hL.inv hI).1, (hL.inv hI).dp⟩
theorem rs_wrong {x1 : Int} (hn : 100 ≤ n) (hI : Inv g) (h1 : i3 x1) (h : ∀ v g' a', opWrong (up2 (up2 g 53 1 0) 53 0 0) x1 = (v, a') → rz g' = rz a' → Kc (up2 (up2 g 53 1 0) 53 0 0) g' → P (some (I_ v)) n (W0 dy) g') : Runs miX12_wrong (d + 4) [.ref 53, I_ x1] n (W0 dy) g P := by
  have hI1 : Inv (up2 g 53 1 0) := hI
  refine wX12_wrong hn ?_
  generalize (up2 g 53 1 0) = g1 at h hI1 ⊢
  clear hI
  refine spX12_topped hn hI1.1.2 h1 (bX12_wrong_11 hn ⟨topI_i3 _ _, fun q => ?_, fun q => ?_⟩)
  · have c := topI_le q
    rw [c]
    obtain ⟨c1, c2, c3⟩ := topI_0 c
    obtain ⟨k, rfl⟩ := exN c1
    have hI2 : Inv (up2 g1 53 0 0) := hI1
    have ct : topI (up2 g1 53 0 0) (k : Int) = 0 := c
    have c2' : (k : Int) < up2 g1 53 0 0 53 5 := c2
    generalize (up2 g1 53 0 0) = a at h hI2 ct c2' ⊢
    clear q c c1 c2 c3 hI1
    refine rs_allThere hn hI2 fun G r hL _ _ _ => bX12_wrong_27 hn ?_
    have e5 : G 53 5 = a 53 5 := hL.1 53 5 (by omega) (by omega) (by omega) (by omega) (by omega)
    refine rs_marks hn (hL.rf hI2) (by omega) fun G2 k1 k2 => bX12_wrong_32 hn ?_
    obtain ⟨hL2, hM⟩ := hL.marks k1 k2
    refine sp_wrongRods hn hI2 (VB.own hI2) hL2 hM (bX12_wrong_36 hn (h _ _ _ ?_ hL2.rz hL2.kc))
    unfold opWrong
    rw [if_neg (by rw [ct]; omega)]
    unfold wrs
    simp only [wrv_wr]
    rfl
  · have e : up2 g1 53 0 (topI g1 x1) = up2 (up2 g1 53 0 0) 53 0 (topI g1 x1) := by rw [up2_up]
    rw [e]
    refine h _ _ _ ?_ rfl ((Kc.refl _).up (by omega))
    unfold opWrong; exact if_pos q
theorem ld_rz {g g1 : Hp} (h : rz g1 = rz g) (k : Nat) : ld g1 (g1 63) k = ld g (g 63) k := by
  have e63 := rz_row (i := 63) h (fun _ => rfl)
  rw [e63]
  exact ld_cg (rz_row (i := 60) h (fun _ => rfl)) (rz_of h (i := 53) (q := 5) rfl) (fun _ _ => rfl) k
theorem sd_rz {g g1 : Hp} (h : rz g1 = rz g) (s : Int) : sd g1 (g1 63) s = sd g (g 63) s := by unfold sd; rw [ld_rz h]
theorem len_rz {g g1 : Hp} (h : rz g1 = rz g) (k : Nat) : len g1 k = len g k := by
  unfold len
  rw [sd_rz h, sd_rz h, rz_of h (i := 63) (q := k) rfl, rz_of h (i := 64) (q := k) rfl, rz_of h (i := 65) (q := k) rfl, rz_of h (i := 66) (q := k) rfl, rz_of h (i := 67) (q := k) rfl]
theorem opBears_cg {g g1 : Hp} (h : rz g1 = rz g) (x1 : Int) : (opBears g1 x1).1 = (opBears g x1).1 ∧ rz (opBears g1 x1).2 = rz (opBears g x1).2 := by
  unfold opBears
  rw [ld_rz h, rz_of h (i := 53) (q := 5) rfl]
  split
  · exact ⟨rfl, by show rz (up2 g1 53 0 2) = rz (up2 g 53 0 2); rw [rz_f0, rz_f0, h]⟩
  · exact ⟨rfl, h⟩
theorem rodI_rz {g g1 : Hp} (h : rz g1 = rz g) (x1 : Int) : rodI g1 x1 = rodI g x1 := by
  unfold rodI
  rw [rz_of h (i := 53) (q := 5) rfl, rz_of h (i := 57) (q := x1.toNat) rfl]
theorem topI_rz {g g1 : Hp} (h : rz g1 = rz g) (x1 : Int) : topI g1 x1 = topI g x1 := by
  unfold topI
  rw [rz_of h (i := 53) (q := 5) rfl, rz_of h (i := 60) (q := x1.toNat) rfl]
theorem opTilts_cg {g g1 : Hp} (h : rz g1 = rz g) (x1 : Int) : (opTilts g1 x1).1 = (opTilts g x1).1 ∧ rz (opTilts g1 x1).2 = rz (opTilts g x1).2 := by
  unfold opTilts
  rw [len_rz h, rodI_rz h]
  generalize rodI g x1 = T
  split
  · exact ⟨rfl, by show rz (up2 g1 53 0 T) = rz (up2 g 53 0 T); rw [rz_f0, rz_f0, h]⟩
  · exact ⟨rfl, h⟩
theorem opWrong_cg {g g1 : Hp} (h : rz g1 = rz g) (x1 : Int) : (opWrong g1 x1).1 = (opWrong g x1).1 ∧ rz (opWrong g1 x1).2 = rz (opWrong g x1).2 := by
  have e60 := rz_row (i := 60) h (fun _ => rfl)
  have ew : ∀ y, wr g1 y = wr g y := fun y => by unfold wr; rw [len_rz h, rz_of h (i := 57) (q := y) rfl]
  unfold opWrong
  rw [topI_rz h, e60, rz_of h (i := 53) (q := 5) rfl]
  simp only [ew]
  generalize topI g x1 = T
  split
  · exact ⟨rfl, by show rz (up2 g1 53 0 T) = rz (up2 g 53 0 T); rw [rz_f0, rz_f0, h]⟩
  · exact ⟨rfl, h⟩
theorem inv_bears {a : Hp} (hI : Inv a) (x1 : Int) : Inv (opBears a x1).2 := by
  unfold opBears
  split
  · exact hI.st _
  · exact hI
theorem inv_tilts {a : Hp} (hI : Inv a) (x1 : Int) : Inv (opTilts a x1).2 := by
  unfold opTilts
  split
  · exact hI.st _
  · exact hI
theorem inv_wrong {a : Hp} (hI : Inv a) (x1 : Int) : Inv (opWrong a x1).2 := by
  unfold opWrong
  split
  · exact hI.st _
  · exact hI
end Tilts2
