/-! SHOW: the class -/
/-- the class while it writes: E written, σ open -/
def SW (g : Hp) (u : Nat → Int) (G : Hp) (E : List Int) (σ : List (Nat × Int)) : Prop := (∀ i q, i ≠ 38 → i ≠ 39 → i ≠ 40 → (i ≠ 37 ∨ (q ≠ 1 ∧ q ≠ 4)) → G i q = g i q) ∧ TX 37 1 38 u G E ∧ G 37 4 = (σ.length : Int) ∧ ∀ (i : Nat) (p : Nat × Int), σ[i]? = some p → G 39 i = g 3 p.1 ∧ G 40 i = p.2
def tailT (a : Hp) (f x : Nat) : List Int := (txF a f x).drop 1
section Show2
variable {d n : Nat} {dy : Nat → Shp} {g a G : Hp} {P : Pst} {E : List Int} {σ : List (Nat × Int)} {u : Nat → Int}
theorem SW.put {G' : Hp} {E' : List Int} (h : SW g u G E σ) (hF : FrC G G') (hT : TX 37 1 38 u G' E') : SW g u G' E' σ := by
  obtain ⟨h1, -, h3, h4⟩ := h
  refine ⟨fun i q i1 i2 i3 i4 => (hF i q i1 (by omega)).trans (h1 i q i1 i2 i3 i4), hT, (hF 37 4 (by decide) (by decide)).trans h3, fun i p e => ?_⟩
  rw [hF 39 i (by decide) (Or.inl (by decide)), hF 40 i (by decide) (Or.inl (by decide))]; exact h4 i p e
theorem sw_put {x : Nat} (hn : 100 ≤ n) (hS : SW g u G E σ) (hl : E.length ≤ 5000) (hx : x < 128) (h : ∀ G', SW g u G' (E ++ [(x : Int)]) σ → P none n (W0 dy) G') : Runs miX8_put d [.ref 37, I_ (x : Int)] n (W0 dy) G P :=
  cs_put hn hS.2.1 hl hx fun G' hF hT => h G' (hS.put hF hT)
theorem sw_num {v : Int} (hn : 100 ≤ n) (hS : SW g u G E σ) (hl : E.length + 10 ≤ 5000) (hv : 0 ≤ v ∧ v ≤ 2147483647) (h : ∀ G', SW g u G' (E ++ num v.toNat) σ → P none n (W0 dy) G') : Runs miX8_putNumber (d + 1) [.ref 37, I_ v] n (W0 dy) G P := by
  obtain ⟨w, rfl⟩ := exN hv.1
  exact cs_putNumber hn hS.2.1 hl (by omega) fun G' hF hT => h G' (hS.put hF hT)
theorem SW.cell (hC : Ca n dy g a) (hS : SW g u G E σ) {x : Nat} (hx : (x : Int) < a 53 5) (q : Nat) : G (g 3 x).toNat q = g (g 3 x).toNat q := by
  have b := hC.cell hx
  exact hS.1 _ q (by omega) (by omega) (by omega) (by omega)
theorem cs_tellPart {x : Nat} (hC : Ca n dy g a) (hI : Inv a) (hx : (x : Int) < a 53 5) (hS : SW g u G E σ) (hl : E.length + 11 ≤ 4900) (hσ : σ.length < 60) (hleaf : ¬ (a 57 x = 2 ∨ a 57 x = 3) → ∀ G', SW g u G' (E ++ leafT a x) σ → P none n (W0 dy) G') (hrod : (a 57 x = 2 ∨ a 57 x = 3) → ∀ G', SW g u G' (E ++ [40]) (σ ++ [(x, 0)]) → P none n (W0 dy) G') : Runs miX8_tellPart (d + 2) [.ref 37, .ref (g 3 x).toNat] n (W0 dy) G P := by
  have hn := hC.1
  have hp := hC.2.2.2.1 x hx
  have hK := (hI.2.2.1 x hx).2
  have ek := hp.isk hK
  have b := hC.cell hx
  have pt := hp.pt hK
  have k1 : G (g 3 x).toNat 1 = a 57 x := (hS.cell hC hx 1).trans hp.2.1.2.1
  have ow := (own_b hI hx).1
  by_cases c : a 57 x = 2 ∨ a 57 x = 3
  · rw [if_pos c] at ek
    have s3 := hS.2.2.1
    refine wX8_tellPart hn (wX11_asRod hn ⟨Or.inr pt, fun q => by omega, fun q => ⟨hp.ob c, bX8_tellPart_4 hn ⟨fun q => by omega, fun _ => ⟨fun q => by omega, fun _ => ?_⟩⟩⟩⟩)
    refine sw_put (x := 40) hn hS (by omega) (by decide) fun G1 S1 => ?_
    obtain ⟨h1, h2, h3, h4⟩ := S1
    refine bX8_tellPart_27 hn ⟨⟨by omega, by omega⟩, hp.ob c, ⟨by omega, by omega⟩, hrod c _ ⟨fun i q i1 i2 i3 i4 => ?_, ⟨?_, fun i y e hi => ?_, fun i hi => ?_⟩, ?_, fun i p e => ?_⟩⟩
    · rw [up2_ap, if_neg (by omega), up2_i i3, up2_i i2]; exact h1 i q i1 i2 i3 i4
    · rw [up2_ap, if_neg (by omega), up2_i (by decide), up2_i (by decide)]; exact h2.1
    · rw [up2_i (by decide), up2_i (by decide), up2_i (by decide)]; exact h2.2.1 i y e hi
    · rw [up2_i (by decide), up2_i (by decide), up2_i (by decide)]; exact h2.2.2 i hi
    · rw [up2_s, h3, List.length_append]; rfl
    · rw [show (G1 37 4).toNat = σ.length by omega]
      have r39 : ∀ v w z : Int, up2 (up2 (up2 G1 39 σ.length v) 40 σ.length w) 37 4 z 39 i = if i = σ.length then v else G1 39 i := fun v w z => by rw [up2_i (by decide), up2_i (by decide), up2_k]
      have r40 : ∀ v w z : Int, up2 (up2 (up2 G1 39 σ.length v) 40 σ.length w) 37 4 z 40 i = if i = σ.length then w else G1 40 i := fun v w z => by rw [up2_i (by decide), up2_k, up2_i (by decide)]
      rw [r39, r40]
      by_cases l : i < σ.length
      · rw [List.getElem?_append_left l] at e
        rw [if_neg (by omega), if_neg (by omega)]; exact h4 i p e
      · rw [List.getElem?_append_right (by omega)] at e
        have hlt := (List.getElem?_eq_some_iff.mp e).1
        have hlt : i - σ.length < 1 := hlt
        rw [show i - σ.length = 0 by omega] at e
        have e : (x, (0 : Int)) = p := by simpa using e
        rw [if_pos (by omega), if_pos (by omega), ← e]
        exact ⟨by show ((g 3 x).toNat : Int) = g 3 x; omega, rfl⟩
  · rw [if_neg c] at ek
    have fin : ∀ (G1 : Hp) (E1 : List Int), SW g u G1 E1 σ → E1 = E ++ (if a 57 x = 4 then [112] else []) → V miX8_tellPart (d + 2) 72 [(0, .ref 37), (1, .ref (g 3 x).toNat), (2, .ref 0)] [] n (W0 dy) G1 0 0 P := fun G1 E1 S1 e1 => by
      refine bX8_tellPart_72 hn ⟨pt, ?_⟩
      have e2 : G1 (g 3 x).toNat 2 = a 63 x := (S1.cell hC hx 2).trans hp.2.1.2.2
      rw [e2]
      have len1 : E1.length ≤ E.length + 1 := by rw [e1, List.length_append]; split <;> simp
      refine sw_num hn S1 (by omega) ⟨by omega, by omega⟩ fun G2 S2 => bX8_tellPart_80 hn (hleaf c G2 ?_)
      unfold leafT
      rw [← List.append_assoc, ← e1]; exact S2
    refine wX8_tellPart hn (wX11_asRod hn ⟨Or.inr pt, fun q => bX8_tellPart_4 hn ⟨fun _ => ⟨pt, ?_⟩, fun q => absurd q (by decide)⟩, fun q => absurd ek q⟩)
    rw [k1]
    refine ⟨fun w => fin _ E hS (by rw [if_neg w, List.append_nil]), fun w => ?_⟩
    exact sw_put (x := 112) hn hS (by omega) (by decide) fun G1 S1 => fin G1 _ S1 (by rw [if_pos w]; rfl)
theorem cs_tellSide {s : Int} (hC : Ca n dy g a) (hI : Inv a) (hs : -1 ≤ s ∧ s < a 53 5) (hs0 : 0 ≤ s → 0 ≤ a 60 s.toNat) (hS : SW g u G E σ) (hl : E.length + 22 ≤ 4900) (hσ : 0 ≤ s → σ.length < 60) (hno : s < 0 → ∀ G', SW g u G' (E ++ [45]) σ → P none n (W0 dy) G') (hleaf : 0 ≤ s → ¬ (a 57 s.toNat = 2 ∨ a 57 s.toNat = 3) → ∀ G', SW g u G' (E ++ (num (a 62 s.toNat).toNat ++ [58] ++ leafT a s.toNat)) σ → P none n (W0 dy) G') (hrod : 0 ≤ s → (a 57 s.toNat = 2 ∨ a 57 s.toNat = 3) → ∀ G', SW g u G' (E ++ (num (a 62 s.toNat).toNat ++ [58] ++ [40])) (σ ++ [(s.toNat, 0)]) → P none n (W0 dy) G') : Runs miX8_tellSide (d + 3) [.ref 37, .ref (rfx (g 3) s).toNat] n (W0 dy) G P := by
  have hn := hC.1
  unfold rfx
  by_cases c : s < 0
  · rw [if_pos c]
    exact wX8_tellSide hn ⟨fun q => absurd q (by decide), fun _ => sw_put (x := 45) hn hS (by omega) (by decide) fun G1 S1 => bX8_tellSide_10 hn (hno c G1 S1)⟩
  · rw [if_neg c]
    obtain ⟨y, rfl⟩ := exN (show 0 ≤ s by omega)
    have hy : (y : Int) < a 53 5 := hs.2
    have b := hC.cell hy
    have on0 : 0 ≤ a 60 y := hs0 (by omega)
    have t62 := ((hI.2.2.1 y hy).1.2.2.1 on0).1
    have e5 : G (g 3 y).toNat 5 = a 62 y := (hS.cell hC hy 5).trans (hC.known hy).1.2.2
    have nl := num_len (a 62 y).toNat
    show Runs miX8_tellSide (d + 3) [.ref 37, .ref (g 3 y).toNat] n (W0 dy) G P
    refine wX8_tellSide hn ⟨fun _ => ⟨(hC.2.2.2.1 y hy).pt (hI.2.2.1 y hy).2, ?_⟩, fun q => by omega⟩
    rw [e5]
    refine sw_num hn hS (by omega) ⟨by omega, by omega⟩ fun G1 S1 => bX8_tellSide_19 hn ?_
    refine sw_put (x := 58) hn S1 (by rw [List.length_append]; omega) (by decide) fun G2 S2 => bX8_tellSide_25 hn ?_
    refine cs_tellPart hC hI hy S2 (by simp only [List.length_append]; show E.length + _ + 1 + 11 ≤ 4900; omega) (hσ (by omega)) (fun lf G3 S3 => bX8_tellSide_30 hn (hleaf (by omega) lf G3 ?_)) (fun rd G3 S3 => bX8_tellSide_30 hn (hrod (by omega) rd G3 ?_))
    · rw [List.append_assoc, List.append_assoc] at S3
      rw [List.append_assoc]; exact S3
    · rw [List.append_assoc, List.append_assoc] at S3
      rw [List.append_assoc]; exact S3
/-- the last open rod has been told one side more -/
theorem SW.told {x : Nat} {k : Int} (h : SW g u G E (σ ++ [(x, k)])) : G 37 4 - 1 = (σ.length : Int) ∧ G 39 σ.length = g 3 x ∧ G 40 σ.length = k ∧ SW g u (up2 G 40 σ.length (k + 1)) E (σ ++ [(x, k + 1)]) := by
  obtain ⟨s1, s2, s3, s4⟩ := h
  rw [List.length_append] at s3
  have s3 : G 37 4 = ((σ.length + 1 : Nat) : Int) := s3
  have e := s4 σ.length (x, k) (by rw [List.getElem?_append_right (Nat.le_refl _), Nat.sub_self]; rfl)
  refine ⟨by omega, e.1, e.2, ⟨fun i q i1 i2 i3 i4 => ?_, ⟨?_, fun i y e hi => ?_, fun i hi => ?_⟩, ?_, fun i p e' => ?_⟩⟩
  · rw [up2_i i3]; exact s1 i q i1 i2 i3 i4
  · rw [up2_i (by decide)]; exact s2.1
  · rw [up2_i (by decide)]; exact s2.2.1 i y e hi
  · rw [up2_i (by decide)]; exact s2.2.2 i hi
  · rw [up2_i (by decide), s3, List.length_append]; rfl
  · rw [up2_i (by decide), up2_k]
    by_cases l : i < σ.length
    · rw [List.getElem?_append_left l] at e'
      rw [if_neg (by omega)]
      exact s4 i p (by rw [List.getElem?_append_left l]; exact e')
    · rw [List.getElem?_append_right (by omega)] at e'
      have hlt := (List.getElem?_eq_some_iff.mp e').1
      have hlt : i - σ.length < 1 := hlt
      have ei : i = σ.length := by omega
      rw [ei, Nat.sub_self] at e'
      have e' : (x, k + 1) = p := by simpa using e'
      rw [ei, if_pos rfl, ← e']; exact ⟨e.1, rfl⟩
theorem SW.close {p : Nat × Int} (h : SW g u G E (σ ++ [p])) : SW g u (up2 G 37 4 (G 37 4 - 1)) E σ := by
  obtain ⟨s1, s2, s3, s4⟩ := h
  rw [List.length_append] at s3
  have s3 : G 37 4 = ((σ.length + 1 : Nat) : Int) := s3
  refine ⟨fun i q i1 i2 i3 i4 => ?_, ⟨?_, fun i y e hi => ?_, fun i hi => ?_⟩, ?_, fun i p e' => ?_⟩
  · rw [up2_ap, if_neg (by omega)]; exact s1 i q i1 i2 i3 i4
  · rw [up2_ap, if_neg (by omega)]; exact s2.1
  · rw [up2_i (by decide)]; exact s2.2.1 i y e hi
  · rw [up2_i (by decide)]; exact s2.2.2 i hi
  · rw [up2_s]; omega
  · have il := (List.getElem?_eq_some_iff.mp e').1
    rw [up2_i (by decide), up2_i (by decide)]
    exact s4 i p (by rw [List.getElem?_append_left il]; exact e')
theorem rd_b (hI : Inv a) (s : Int) : 0 ≤ sd a (rodc a) s := by
  unfold sd
  split
  · exact ldx_nn hI (fun y _ => by unfold rodc; split <;> omega) _
  · exact Int.le_refl _
theorem tl {r1 : Nat} (hC : Ca n dy g a) (hI : Inv a) {dp : Nat → Nat} (hD : DP (a 53 5) (a 60) dp) : ∀ (f x : Nat) (G : Hp) (E : List Int) (σ : List (Nat × Int)) (t : Int), (x : Int) < a 53 5 → (a 57 x = 2 ∨ a 57 x = 3) → 60 ≤ f + dp x → E.length + (tailT a f x).length ≤ 4800 → σ.length ≤ dp x → 0 ≤ t → t + 3 * ld a (rodc a) x ≤ 180 → SW g u G E (σ ++ [(x, 0)]) → (∀ G', SW g u G' (E ++ tailT a f x) σ → V miX8_tell (d + 5) 17 [(0, .ref 37), (1, .ref r1), (2, I_ (t + 3 * ld a (rodc a) x))] [] n (W0 dy) G' 0 0 P) → V miX8_tell (d + 5) 17 [(0, .ref 37), (1, .ref r1), (2, I_ t)] [] n (W0 dy) G 0 0 P := by
  have hn := hC.1
  have hN := hI.1
  intro f
  induction f with
  | zero =>
    intro x G E σ t hx rod hf
    have := (hD x hx).2.1
    omega
  | succ f ih =>
    intro x G E σ t hx rod hf hl hσ ht ht2 hS h
    have q := (hI.2.2.1 x hx).1
    have dx := (hD x hx).2.1
    have un : tailT a (f + 1) x = sdT (txF a f) (a 62) (a 66 x) ++ midT a x ++ sdT (txF a f) (a 62) (a 67 x) ++ [41] := by
      have e : txF a (f + 1) x = [40] ++ sdT (txF a f) (a 62) (a 66 x) ++ midT a x ++ sdT (txF a f) (a 62) (a 67 x) ++ [41] := if_pos rod
      unfold tailT
      rw [e]
      simp only [List.append_assoc]
      rfl
    rw [un] at h hl
    have el : ld a (rodc a) x = 1 + sd a (rodc a) (a 66 x) + sd a (rodc a) (a 67 x) := by
      rw [ld_eq hI hx]
      have : rodc a x = 1 := if_pos rod
      omega
    have rL := rd_b hI (a 66 x)
    have rR := rd_b hI (a 67 x)
    have ml := midT_len (a := a) x
    simp only [List.length_append] at hl
    have hl : E.length + ((sdT (txF a f) (a 62) (a 66 x)).length + (midT a x).length + (sdT (txF a f) (a 62) (a 67 x)).length + 1) ≤ 4800 := hl
    have ee : E ++ (sdT (txF a f) (a 62) (a 66 x) ++ midT a x ++ sdT (txF a f) (a 62) (a 67 x) ++ [41]) = E ++ sdT (txF a f) (a 62) (a 66 x) ++ midT a x ++ sdT (txF a f) (a 62) (a 67 x) ++ [41] := by simp only [List.append_assoc]
    rw [ee] at h
    have obx := (hC.2.2.2.1 x hx).ob rod
    obtain ⟨⟨x12, x13⟩, x14, x15⟩ := (hC.known hx).2 rod
    have rb := (rod_k hI hx rod).2
    -- a side, and all that hangs on it
    have side : ∀ (s : Int) (k : Int) (t' : Int) (G1 : Hp) (E1 : List Int) (Q : Pst), (-1 ≤ s ∧ s < a 53 5) → (0 ≤ s → a 60 s.toNat = (x : Int)) → 0 ≤ t' → t' + 1 + 3 * sd a (rodc a) s ≤ 180 → E1.length + (sdT (txF a f) (a 62) s).length ≤ 4799 → SW g u G1 E1 (σ ++ [(x, k)]) → (∀ G', SW g u G' (E1 ++ sdT (txF a f) (a 62) s) (σ ++ [(x, k)]) → V miX8_tell (d + 5) 17 [(0, .ref 37), (1, .ref r1), (2, I_ (t' + 1 + 3 * sd a (rodc a) s))] [] n (W0 dy) G' 0 0 P) → (∀ G', V miX8_tell (d + 5) 17 [(0, .ref 37), (1, .ref r1), (2, I_ (t' + 1))] [] n (W0 dy) G' 0 0 P → Q none n (W0 dy) G') → Runs miX8_tellSide (d + 3) [.ref 37, .ref (rfx (g 3) s).toNat] n (W0 dy) G1 Q := by
      intro s k t' G1 E1 Q hs hk ht' ht2' hl1 S1 hc hQ
      have sl : (σ ++ [(x, k)]).length = σ.length + 1 := by rw [List.length_append]; rfl
      refine cs_tellSide hC hI hs (fun c => by rw [hk c]; omega) S1 (by omega) (fun c => by rw [sl]; have h1 := (hD s.toNat (by omega)).2.2.2 (by rw [hk c]; omega); rw [hk c] at h1; have h1 : dp s.toNat = dp x + 1 := h1; have h2 := (hD s.toNat (by omega)).2.1; omega) (fun c G2 S2 => hQ G2 ?_) (fun c lf G2 S2 => hQ G2 ?_) (fun c rd G2 S2 => hQ G2 ?_)
      · have e : sdT (txF a f) (a 62) s = [45] := if_pos c
        have e2 : sd a (rodc a) s = 0 := if_neg (by omega)
        rw [e, e2] at hc
        have := hc G2 S2
        rw [show t' + 1 + 3 * 0 = t' + 1 by omega] at this; exact this
      · obtain ⟨y, rfl⟩ := exN c
        have lf : ¬ (a 57 y = 2 ∨ a 57 y = 3) := lf
        have hy : (y : Int) < a 53 5 := hs.2
        have ey : a 60 y = (x : Int) := hk c
        have dy' := (hD y hy).2.2.2 (by omega)
        rw [ey] at dy'
        have dy' : dp y = dp x + 1 := dy'
        have yb := (hD y hy).2.1
        have et : txF a f y = leafT a y := by
          cases f with
          | zero => omega
          | succ f => exact if_neg lf
        have e : sdT (txF a f) (a 62) (y : Int) = num (a 62 y).toNat ++ [58] ++ leafT a y := by
          have : sdT (txF a f) (a 62) (y : Int) = num (a 62 y).toNat ++ [58] ++ txF a f y := if_neg (by omega)
          rw [this, et]
        have z : a 66 y = -1 ∧ a 67 y = -1 := by
          rcases (hI.2.2.1 y hy).2 with w | w | w
          · exact w.2.2
          · exact absurd w.1 lf
          · exact ⟨w.2.2.1, w.2.2.2.1⟩
        have e2 : sd a (rodc a) (y : Int) = 0 := by
          have : sd a (rodc a) (y : Int) = ld a (rodc a) y := if_pos (by omega)
          rw [this, ld_eq hI hy]
          have r0 : rodc a y = 0 := if_neg lf
          rw [r0, z.1, z.2]
          rfl
        rw [e, e2] at hc
        have := hc G2 S2
        rw [show t' + 1 + 3 * 0 = t' + 1 by omega] at this; exact this
      · obtain ⟨y, rfl⟩ := exN c
        have rd : a 57 y = 2 ∨ a 57 y = 3 := rd
        have hy : (y : Int) < a 53 5 := hs.2
        have ey : a 60 y = (x : Int) := hk c
        have dy' := (hD y hy).2.2.2 (by omega)
        rw [ey] at dy'
        have dy' : dp y = dp x + 1 := dy'
        have yb := (hD y hy).2.1
        have et : txF a f y = [40] ++ tailT a f y := by
          cases f with
          | zero => omega
          | succ f =>
            have e : txF a (f + 1) y = [40] ++ sdT (txF a f) (a 62) (a 66 y) ++ midT a y ++ sdT (txF a f) (a 62) (a 67 y) ++ [41] := if_pos rd
            unfold tailT
            rw [e]
            simp only [List.append_assoc]
            rfl
        have e : sdT (txF a f) (a 62) (y : Int) = num (a 62 y).toNat ++ [58] ++ [40] ++ tailT a f y := by
          have : sdT (txF a f) (a 62) (y : Int) = num (a 62 y).toNat ++ [58] ++ txF a f y := if_neg (by omega)
          rw [this, et]
          simp only [List.append_assoc]
        have e2 : sd a (rodc a) (y : Int) = ld a (rodc a) y := if_pos (by omega)
        rw [e, e2] at hc
        rw [e] at hl1
        rw [e2] at ht2'
        have S2 : SW g u G2 (E1 ++ (num (a 62 y).toNat ++ [58] ++ [40])) (σ ++ [(x, k)] ++ [(y, 0)]) := S2
        simp only [List.length_append] at hl1
        refine ih y G2 _ (σ ++ [(x, k)]) (t' + 1) hy rd (by omega) ?_ (by rw [sl]; omega) (by omega) ht2' S2 fun G3 S3 => hc G3 ?_
        · simp only [List.length_append]
          omega
        · rw [List.append_assoc] at S3; exact S3
    have turn : ∀ (t' k : Int) (G1 : Hp) (E1 : List Int), SW g u G1 E1 (σ ++ [(x, k)]) → 0 ≤ t' → t' < 180 → (∀ Q : Pst, (∀ G', V miX8_tell (d + 5) 17 [(0, .ref 37), (1, .ref r1), (2, I_ (t' + 1))] [] n (W0 dy) G' 0 0 P → Q none n (W0 dy) G') → Runs miX8_goOnWith (d + 4) [.ref 37, I_ (σ.length : Int)] n (W0 dy) G1 Q) → V miX8_tell (d + 5) 17 [(0, .ref 37), (1, .ref r1), (2, I_ t')] [] n (W0 dy) G1 0 0 P := fun t' k G1 E1 S1 h1 h2 hr => by
      have e := S1.told.1
      refine bX8_tell_17 hn ⟨⟨by omega, by omega⟩, fun q => by omega, fun _ => ⟨fun q => by omega, fun _ => ?_⟩⟩
      rw [e]
      exact hr _ fun G' hv => bX8_tell_41 hn hv
    have cellT : ∀ (G1 : Hp) (E1 : List Int) (k : Int) (q : Nat), SW g u G1 E1 (σ ++ [(x, k)]) → G1 (g 3 x).toNat q = g (g 3 x).toNat q := fun G1 E1 k q S1 => S1.cell hC hx q
    have sN : σ.length < 60 := by omega
    -- the third turn
    have third : ∀ (t' : Int) (G1 : Hp), SW g u G1 (E ++ sdT (txF a f) (a 62) (a 66 x) ++ midT a x ++ sdT (txF a f) (a 62) (a 67 x)) (σ ++ [(x, 2)]) → 0 ≤ t' → t' + 1 = t + 3 * ld a (rodc a) x → V miX8_tell (d + 5) 17 [(0, .ref 37), (1, .ref r1), (2, I_ t')] [] n (W0 dy) G1 0 0 P := fun t' G1 S1 h1 h2 => by
      refine turn t' 2 G1 _ S1 h1 (by omega) fun Q hQ => ?_
      obtain ⟨-, t1, t2, t3⟩ := S1.told
      refine wX8_goOnWith hn ⟨⟨by omega, by omega⟩, ?_⟩
      show i3 (G1 40 σ.length + 1) ∧ _
      rw [show G1 40 ((σ.length : Nat) : Int).toNat = 2 from t2]
      refine ⟨by rw [t2]; decide, fun _ => ⟨fun _ => ?_, fun q => absurd q (by decide)⟩, fun q => absurd q (by decide)⟩
      refine sw_put (x := 41) hn t3 (by simp only [List.length_append]; omega) (by decide) fun G2 S2 => ?_
      have s4 := S2.2.2.1
      rw [List.length_append] at s4
      have s4 : G2 37 4 = ((σ.length + 1 : Nat) : Int) := s4
      refine bX8_goOnWith_95 hn ⟨⟨by omega, by omega⟩, hQ _ ?_⟩
      rw [h2]
      exact h _ S2.close
    -- the second
    have second : ∀ (t' : Int) (G1 : Hp), SW g u G1 (E ++ sdT (txF a f) (a 62) (a 66 x)) (σ ++ [(x, 1)]) → 0 ≤ t' → t' + 2 + 3 * sd a (rodc a) (a 67 x) = t + 3 * ld a (rodc a) x → V miX8_tell (d + 5) 17 [(0, .ref 37), (1, .ref r1), (2, I_ t')] [] n (W0 dy) G1 0 0 P := fun t' G1 S1 h1 h2 => by
      refine turn t' 1 G1 _ S1 h1 (by omega) fun Q hQ => ?_
      obtain ⟨-, t1, t2, t3⟩ := S1.told
      have n1 := num_len (a 64 x).toNat
      have n2 := num_len (a 65 x).toNat
      have em : midT a x = [44] ++ num (a 64 x).toNat ++ [47] ++ num (a 65 x).toNat ++ [44] := rfl
      refine wX8_goOnWith hn ⟨⟨by omega, by omega⟩, ?_⟩
      show i3 (G1 40 σ.length + 1) ∧ _
      rw [show G1 40 ((σ.length : Nat) : Int).toNat = 1 from t2, show G1 39 ((σ.length : Nat) : Int).toNat = g 3 x from t1]
      refine ⟨by rw [t2]; decide, fun _ => ⟨fun q => absurd rfl q, fun _ => ?_⟩, fun q => absurd q (by decide)⟩
      refine sw_put (x := 44) hn t3 (by simp only [List.length_append]; omega) (by decide) fun G2 S2 => bX8_goOnWith_50 hn ⟨obx, ?_⟩
      rw [cellT G2 _ _ 12 S2, x12]
      refine sw_num hn S2 (by simp only [List.length_append]; show E.length + _ + 1 + 10 ≤ 5000; omega) ⟨by omega, by omega⟩ fun G3 S3 => bX8_goOnWith_58 hn ?_
      refine sw_put (x := 47) hn S3 (by simp only [List.length_append]; show E.length + _ + 1 + _ ≤ 5000; omega) (by decide) fun G4 S4 => bX8_goOnWith_64 hn ⟨obx, ?_⟩
      rw [cellT G4 _ _ 13 S4, x13]
      refine sw_num hn S4 (by simp only [List.length_append]; show E.length + _ + 1 + _ + 1 + 10 ≤ 5000; omega) ⟨by omega, by omega⟩ fun G5 S5 => bX8_goOnWith_72 hn ?_
      refine sw_put (x := 44) hn S5 (by simp only [List.length_append]; show E.length + _ + 1 + _ + 1 + _ ≤ 5000; omega) (by decide) fun G6 S6 => bX8_goOnWith_78 hn ⟨obx, ?_⟩
      rw [cellT G6 _ _ 15 S6, x15]
      have S6' : SW g u G6 (E ++ sdT (txF a f) (a 62) (a 66 x) ++ midT a x) (σ ++ [(x, 2)]) := by
        have : E ++ sdT (txF a f) (a 62) (a 66 x) ++ midT a x = E ++ sdT (txF a f) (a 62) (a 66 x) ++ [44] ++ num (a 64 x).toNat ++ [47] ++ num (a 65 x).toNat ++ [44] := by
          rw [em]
          simp only [List.append_assoc]
        rw [this]; exact S6
      refine side (a 67 x) 2 t' G6 _ _ ⟨q.2.2.2.2.1, q.2.2.2.2.2.1⟩ (fun z => (q.2.2.2.2.2.2 z).1) h1 (by omega) (by simp only [List.length_append]; omega) S6' (fun G7 S7 => third _ G7 S7 (by omega) (by omega)) fun G' hv => bX8_goOnWith_86 hn (hQ G' hv)
    -- the first
    refine turn t 0 G E hS ht (by omega) fun Q hQ => ?_
    obtain ⟨-, t1, t2, t3⟩ := hS.told
    refine wX8_goOnWith hn ⟨⟨by omega, by omega⟩, ?_⟩
    show i3 (G 40 σ.length + 1) ∧ _
    rw [show G 40 ((σ.length : Nat) : Int).toNat = 0 from t2, show G 39 ((σ.length : Nat) : Int).toNat = g 3 x from t1]
    refine ⟨by rw [t2]; decide, fun q => absurd rfl q, fun _ => ⟨obx, ?_⟩⟩
    have e14 : up2 G 40 σ.length (0 + 1) (g 3 x).toNat 14 = rfx (g 3) (a 66 x) := (cellT _ _ _ 14 t3).trans x14
    show Runs miX8_tellSide (d + 3) [.ref 37, .ref (up2 G 40 σ.length (0 + 1) (g 3 x).toNat 14).toNat] n (W0 dy) (up2 G 40 σ.length (0 + 1)) _
    rw [e14]
    exact side (a 66 x) 1 t _ _ _ ⟨q.2.2.2.1.1, q.2.2.2.1.2.1⟩ (fun z => (q.2.2.2.1.2.2 z).1) ht (by omega) (by omega) t3 (fun G7 S7 => second _ G7 S7 (by omega) (by omega)) fun G' hv => bX8_goOnWith_36 hn (hQ G' hv)
end Show2
