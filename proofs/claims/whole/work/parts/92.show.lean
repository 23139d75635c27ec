/-! SHOW: the text of a mobile; the reference -/
def sdT (F : Nat → List Int) (th : Nat → Int) (s : Int) : List Int := if s < 0 then [45] else num (th s.toNat).toNat ++ [58] ++ F s.toNat
def midT (a : Hp) (x : Nat) : List Int := [44] ++ num (a 64 x).toNat ++ [47] ++ num (a 65 x).toNat ++ [44]
def leafT (a : Hp) (x : Nat) : List Int := (if a 57 x = 4 then [112] else []) ++ num (a 63 x).toNat
def txF (a : Hp) : Nat → Nat → List Int
  | 0, _ => []
  | f + 1, x => if a 57 x = 2 ∨ a 57 x = 3 then [40] ++ sdT (txF a f) (a 62) (a 66 x) ++ midT a x ++ sdT (txF a f) (a 62) (a 67 x) ++ [41] else leafT a x
/-- a with the text T -/
def wrT (a : Hp) (T : List Int) : Hp := fun i q => if i = 53 ∧ q = 29 then (T.length : Int) else if i = 78 ∧ q < T.length ∧ q < 600 then T[q]?.getD 0 else a i q
def opShow (a : Hp) (x1 : Int) : Int × Hp := if 0 < topI a x1 then (-1, up2 a 53 0 (topI a x1)) else (((txF a 60 x1.toNat).length : Int), wrT a (txF a 60 x1.toNat))
theorem num_len (v : Nat) : (num v).length ≤ 10 := by
  unfold num
  rw [dgs_len]
  have := jz_b v
  omega
section Show
variable {d n : Nat} {dy : Nat → Shp} {a G : Hp} {P : Pst} {E : List Int} {σ : List (Int × Int)}
theorem midT_len (x : Nat) : (midT a x).length ≤ 23 := by
  unfold midT
  have h1 := num_len (a 64 x).toNat
  have h2 := num_len (a 65 x).toNat
  simp only [List.length_append]
  show 1 + (num (a 64 x).toNat).length + 1 + (num (a 65 x).toNat).length + 1 ≤ 23
  omega
theorem leafT_len (x : Nat) : (leafT a x).length ≤ 11 := by
  unfold leafT
  have h1 := num_len (a 63 x).toNat
  rw [List.length_append]
  split
  · show 1 + _ ≤ 11; omega
  · show 0 + _ ≤ 11; omega
theorem sdT_len (F : Nat → List Int) (th : Nat → Int) (s : Int) : (s < 0 → (sdT F th s).length = 1) ∧ (0 ≤ s → (sdT F th s).length ≤ 11 + (F s.toNat).length) := by
  unfold sdT
  refine ⟨fun c => by rw [if_pos c]; rfl, fun c => ?_⟩
  rw [if_neg (by omega)]
  have h1 := num_len (th s.toNat).toNat
  simp only [List.length_append]
  show (num (th s.toNat).toNat).length + 1 + _ ≤ _
  omega
theorem txF_len (hI : Inv a) : ∀ f x : Nat, (x : Int) < a 53 5 → ((txF a f x).length : Int) ≤ ld a (fun _ => 60) x
  | 0, x, hx => ldx_nn hI (fun _ _ => by decide) x
  | f + 1, x, hx => by
    have q := (hI.2.2.1 x hx).1
    rw [ld_eq hI hx]
    have side : ∀ s : Int, s < a 53 5 → ((sdT (txF a f) (a 62) s).length : Int) ≤ 11 + sd a (fun _ => 60) s := fun s hs => by
      obtain ⟨h1, h2⟩ := sdT_len (txF a f) (a 62) s
      unfold sd
      by_cases c : 0 ≤ s
      · have := txF_len hI f s.toNat (by omega)
        have := h2 c
        rw [if_pos c]; omega
      · rw [if_neg c, h1 (by omega)]; omega
    have s1 := side _ q.2.2.2.1.2.1
    have s2 := side _ q.2.2.2.2.2.1
    have m := midT_len (a := a) x
    have l := leafT_len (a := a) x
    have nn : ∀ s : Int, 0 ≤ sd a (fun _ => 60) s := fun s => by
      unfold sd; split
      · exact ldx_nn hI (fun _ _ => by decide) _
      · exact Int.le_refl _
    have n1 := nn (a 66 x)
    have n2 := nn (a 67 x)
    have un : txF a (f + 1) x = if a 57 x = 2 ∨ a 57 x = 3 then [40] ++ sdT (txF a f) (a 62) (a 66 x) ++ midT a x ++ sdT (txF a f) (a 62) (a 67 x) ++ [41] else leafT a x := rfl
    rw [un]
    split
    · simp only [List.length_append]
      show ((1 + (sdT (txF a f) (a 62) (a 66 x)).length + (midT a x).length + (sdT (txF a f) (a 62) (a 67 x)).length + 1 : Nat) : Int) ≤ _
      omega
    · omega
theorem txF_3600 (hI : Inv a) {f x : Nat} (hx : (x : Int) < a 53 5) : (txF a f x).length ≤ 3600 := by
  have h1 := txF_len hI f x hx
  have h2 := (ld_b hI (v := fun _ => 60) (B := 60) (by decide) (fun _ _ => by decide) x).2
  omega
/-- the reference while it writes: E written, σ waiting -/
def SR (a G : Hp) (E : List Int) (σ : List (Int × Int)) : Prop := (∀ i q, i ≠ 78 → i ≠ 97 → i ≠ 98 → (i ≠ 53 ∨ (q ≠ 29 ∧ q ≠ 57)) → G i q = a i q) ∧ TX 53 29 78 (a 78) G E ∧ G 53 57 = (σ.length : Int) ∧ ∀ (i : Nat) (p : Int × Int), σ[i]? = some p → G 97 i = p.1 ∧ G 98 i = p.2
theorem SR.put {G' : Hp} {E' : List Int} (h : SR a G E σ) (hF : FrR G G') (hT : TX 53 29 78 (a 78) G' E') : SR a G' E' σ := by
  obtain ⟨h1, -, h3, h4⟩ := h
  refine ⟨fun i q i1 i2 i3 i4 => (hF i q i1 (by omega)).trans (h1 i q i1 i2 i3 i4), hT, (hF 53 57 (by decide) (by decide)).trans h3, fun i p e => ?_⟩
  rw [hF 97 i (by decide) (Or.inl (by decide)), hF 98 i (by decide) (Or.inl (by decide))]; exact h4 i p e
theorem sr_put {x : Nat} (hn : 100 ≤ n) (hS : SR a G E σ) (hl : E.length ≤ 5000) (hx : x < 128) (h : ∀ G', SR a G' (E ++ [(x : Int)]) σ → P none n (W0 dy) G') : Runs miX12_put d [.ref 53, I_ (x : Int)] n (W0 dy) G P :=
  sp_put hn hS.2.1 hl hx fun G' hF hT => h G' (hS.put hF hT)
theorem sr_num {v : Int} (hn : 100 ≤ n) (hS : SR a G E σ) (hl : E.length + 10 ≤ 5000) (hv : 0 ≤ v ∧ v < 10000000000) (h : ∀ G', SR a G' (E ++ num v.toNat) σ → P none n (W0 dy) G') : Runs miX12_putNumber (d + 1) [.ref 53, L_ v] n (W0 dy) G P := by
  obtain ⟨w, rfl⟩ := exN hv.1
  exact sp_putNumber hn hS.2.1 hl (by omega) fun G' hF hT => h G' (hS.put hF hT)
theorem sr_later {x1 x2 : Int} (hn : 100 ≤ n) (hS : SR a G E σ) (hl : σ.length < 400) (h1 : i3 x1) (h2 : i3 x2) (h : ∀ G', SR a G' E (σ ++ [(x1, x2)]) → P none n (W0 dy) G') : Runs miX12_later d [.ref 53, I_ x1, I_ x2] n (W0 dy) G P := by
  obtain ⟨s1, s2, s3, s4⟩ := hS
  refine wX12_later hn ⟨⟨by omega, by omega⟩, h1, h2, ⟨by omega, by omega⟩, ?_⟩
  rw [show (G 53 57).toNat = σ.length by omega]
  refine h _ ⟨fun i q i1 i2 i3 i4 => ?_, ⟨?_, fun i x e hi => ?_, fun i hi => ?_⟩, ?_, fun i p e => ?_⟩
  · rw [up2_ap, if_neg (by omega), up2_i i3, up2_i i2]; exact s1 i q i1 i2 i3 i4
  · rw [up2_ap, if_neg (by omega), up2_i (by decide), up2_i (by decide)]; exact s2.1
  · rw [up2_i (by decide), up2_i (by decide), up2_i (by decide)]; exact s2.2.1 i x e hi
  · rw [up2_i (by decide), up2_i (by decide), up2_i (by decide)]; exact s2.2.2 i hi
  · rw [up2_s, s3, List.length_append]; rfl
  · have r97 : ∀ u v w : Int, up2 (up2 (up2 G 97 σ.length u) 98 σ.length v) 53 57 w 97 i = if i = σ.length then u else G 97 i := fun u v w => by rw [up2_i (by decide), up2_i (by decide), up2_k]
    have r98 : ∀ u v w : Int, up2 (up2 (up2 G 97 σ.length u) 98 σ.length v) 53 57 w 98 i = if i = σ.length then v else G 98 i := fun u v w => by rw [up2_i (by decide), up2_k, up2_i (by decide)]
    rw [r97, r98]
    by_cases c : i < σ.length
    · rw [List.getElem?_append_left c] at e
      rw [if_neg (by omega), if_neg (by omega)]; exact s4 i p e
    · rw [List.getElem?_append_right (by omega)] at e
      have hlt := (List.getElem?_eq_some_iff.mp e).1
      have hlt : i - σ.length < 1 := hlt
      rw [show i - σ.length = 0 by omega] at e
      have e : (x1, x2) = p := by simpa using e
      rw [if_pos (by omega), if_pos (by omega), ← e]; exact ⟨rfl, rfl⟩
/-- the last that waits is taken -/
theorem SR.pop {w o : Int} (h : SR a G E (σ ++ [(w, o)])) : (G 53 57 - 1).toNat = σ.length ∧ G 53 57 = ((σ.length + 1 : Nat) : Int) ∧ G 97 σ.length = w ∧ G 98 σ.length = o ∧ SR a (up2 G 53 57 (G 53 57 - 1)) E σ := by
  obtain ⟨s1, s2, s3, s4⟩ := h
  rw [List.length_append] at s3
  have s3 : G 53 57 = ((σ.length + 1 : Nat) : Int) := s3
  have e := s4 σ.length (w, o) (by rw [List.getElem?_append_right (Nat.le_refl _), Nat.sub_self]; rfl)
  refine ⟨by omega, s3, e.1, e.2, ⟨fun i q i1 i2 i3 i4 => ?_, ⟨?_, fun i x e hi => ?_, fun i hi => ?_⟩, ?_, fun i q e => ?_⟩⟩
  · rw [up2_ap, if_neg (by omega)]; exact s1 i q i1 i2 i3 i4
  · rw [up2_ap, if_neg (by omega)]; exact s2.1
  · rw [up2_i (by decide)]; exact s2.2.1 i x e hi
  · rw [up2_i (by decide)]; exact s2.2.2 i hi
  · rw [up2_s]; omega
  · have il := (List.getElem?_eq_some_iff.mp e).1
    rw [up2_i (by decide), up2_i (by decide)]
    exact s4 i q (by rw [List.getElem?_append_left il]; exact e)
/-- the part between the sides -/
theorem it2 {x1 : Int} {x : Nat} (hn : 100 ≤ n) (hI : Inv a) (hx : (x : Int) < a 53 5) (rod : a 57 x = 2 ∨ a 57 x = 3) (hl : E.length + 23 ≤ 4900) (hσ : σ.length < 399) (hS : SR a G E (σ ++ [(2, (x : Int))])) (h : ∀ G', SR a G' (E ++ midT a x) σ → V miX12_show (d + 2) 39 [(0, .ref 53), (1, I_ x1)] [] n (W0 dy) G' 0 0 P) : V miX12_show (d + 2) 39 [(0, .ref 53), (1, I_ x1)] [] n (W0 dy) G 0 0 P := by
  obtain ⟨p1, p2, p3, p4, p5⟩ := hS.pop
  have hN := hI.1
  have rb := (rod_k hI hx rod).2
  have h1 := num_len (a 64 x).toNat
  have ee : E ++ midT a x = E ++ [44] ++ num (a 64 x).toNat ++ [47] ++ num (a 65 x).toNat ++ [44] := by
    unfold midT
    simp only [List.append_assoc]
  rw [ee] at h
  refine bX12_show_39 hn ⟨fun q => by omega, fun _ => ⟨⟨by omega, by omega⟩, ⟨by omega, by omega⟩, ?_⟩⟩
  rw [p1, p3, p4]
  refine ⟨fun q => absurd q (by decide), fun q => absurd q (by decide), fun q => absurd q (by decide), fun _ => ?_⟩
  refine sr_put (x := 44) hn p5 (by omega) (by decide) fun G1 S1 => bX12_show_153 hn ⟨⟨by omega, by omega⟩, ?_⟩
  rw [S1.1 64 _ (by decide) (by decide) (by decide) (Or.inl (by decide))]
  show Runs miX12_putNumber (d + 1) [.ref 53, L_ (a 64 x)] n (W0 dy) G1 _
  refine sr_num hn S1 (by rw [List.length_append]; show E.length + 1 + 10 ≤ 5000; omega) ⟨by omega, by omega⟩ fun G2 S2 => bX12_show_163 hn ?_
  refine sr_put (x := 47) hn S2 (by simp only [List.length_append]; show E.length + 1 + _ ≤ 5000; omega) (by decide) fun G3 S3 => bX12_show_169 hn ⟨⟨by omega, by omega⟩, ?_⟩
  rw [S3.1 65 _ (by decide) (by decide) (by decide) (Or.inl (by decide))]
  show Runs miX12_putNumber (d + 1) [.ref 53, L_ (a 65 x)] n (W0 dy) G3 _
  refine sr_num hn S3 (by simp only [List.length_append]; show E.length + 1 + _ + 1 + 10 ≤ 5000; omega) ⟨by omega, by omega⟩ fun G4 S4 => bX12_show_179 hn ?_
  have h2 := num_len (a 65 x).toNat
  exact sr_put (x := 44) hn S4 (by simp only [List.length_append]; show E.length + 1 + _ + 1 + _ ≤ 5000; omega) (by decide) fun G5 S5 => bX12_show_185 hn (bX12_show_193 hn (h G5 S5))
theorem it3 {x1 : Int} (hn : 100 ≤ n) (hl : E.length ≤ 4900) (hσ : σ.length < 399) (hS : SR a G E (σ ++ [(3, 41)])) (h : ∀ G', SR a G' (E ++ [41]) σ → V miX12_show (d + 2) 39 [(0, .ref 53), (1, I_ x1)] [] n (W0 dy) G' 0 0 P) : V miX12_show (d + 2) 39 [(0, .ref 53), (1, I_ x1)] [] n (W0 dy) G 0 0 P := by
  obtain ⟨p1, p2, p3, p4, p5⟩ := hS.pop
  refine bX12_show_39 hn ⟨fun q => by omega, fun _ => ⟨⟨by omega, by omega⟩, ⟨by omega, by omega⟩, ?_⟩⟩
  rw [p1, p3, p4]
  refine ⟨fun _ => ?_, fun q => absurd q (by decide), fun q => absurd q (by decide), fun q => absurd q (by decide)⟩
  exact sr_put (x := 41) hn p5 (by omega) (by decide) fun G1 S1 => bX12_show_193 hn (h G1 S1)
theorem it01 {x1 : Int} (hn : 100 ≤ n) (hI : Inv a) {dp : Nat → Nat} (hD : DP (a 53 5) (a 60) dp) : ∀ f : Nat,
    (∀ (x : Nat) (G : Hp) (E : List Int) (σ : List (Int × Int)), (x : Int) < a 53 5 → 60 ≤ f + dp x → E.length + (txF a f x).length ≤ 4800 → σ.length + 4 * (60 - dp x) ≤ 300 → SR a G E (σ ++ [(0, (x : Int))]) → (∀ G', SR a G' (E ++ txF a f x) σ → V miX12_show (d + 3) 39 [(0, .ref 53), (1, I_ x1)] [] n (W0 dy) G' 0 0 P) → V miX12_show (d + 3) 39 [(0, .ref 53), (1, I_ x1)] [] n (W0 dy) G 0 0 P) := by
  have hN := hI.1
  intro f
  induction f with
  | zero =>
    intro x G E σ hx hf
    have := (hD x hx).2.1
    omega
  | succ f ih =>
    -- a side
    have side : ∀ (s : Int) (G : Hp) (E : List Int) (σ : List (Int × Int)) (x : Nat), (-1 ≤ s ∧ s < a 53 5) → (0 ≤ s → a 60 s.toNat = (x : Int)) → (x : Int) < a 53 5 → 60 ≤ f + 1 + dp x → E.length + (sdT (txF a f) (a 62) s).length ≤ 4800 → σ.length + 4 * (60 - (dp x + 1)) ≤ 300 → SR a G E (σ ++ [(1, s)]) → (∀ G', SR a G' (E ++ sdT (txF a f) (a 62) s) σ → V miX12_show (d + 3) 39 [(0, .ref 53), (1, I_ x1)] [] n (W0 dy) G' 0 0 P) → V miX12_show (d + 3) 39 [(0, .ref 53), (1, I_ x1)] [] n (W0 dy) G 0 0 P := by
      intro s G E σ x hs hk hx hf hl hσ hS h
      obtain ⟨p1, p2, p3, p4, p5⟩ := hS.pop
      refine bX12_show_39 hn ⟨fun q => by omega, fun _ => ⟨⟨by omega, by omega⟩, ⟨by omega, by omega⟩, ?_⟩⟩
      rw [p1, p3, p4]
      refine ⟨fun q => absurd q (by decide), fun q => absurd q (by decide), fun _ => ⟨fun c => ⟨⟨by omega, by omega⟩, ?_⟩, fun c => ?_⟩, fun q => absurd q (by decide)⟩
      · obtain ⟨y, rfl⟩ := exN c
        have hy : (y : Int) < a 53 5 := hs.2
        have ey : a 60 y = (x : Int) := hk c
        have dy' := (hD y hy).2.2.2 (by omega)
        rw [ey] at dy'
        have dy' : dp y = dp x + 1 := dy'
        have t62 := ((hI.2.2.1 y hy).1.2.2.1 (by omega)).1
        have un : sdT (txF a f) (a 62) (y : Int) = num (a 62 y).toNat ++ [58] ++ txF a f y := if_neg (by omega)
        rw [un] at h hl
        have nl := num_len (a 62 y).toNat
        simp only [List.length_append] at hl
        have hl : E.length + ((num (a 62 y).toNat).length + 1 + (txF a f y).length) ≤ 4800 := hl
        have g62 : G 62 ((y : Nat) : Int).toNat = a 62 y := hS.1 62 y (by decide) (by decide) (by decide) (Or.inl (by decide))
        rw [g62]
        refine sr_num hn p5 (by omega) ⟨by omega, by omega⟩ fun G1 S1 => bX12_show_132 hn ?_
        refine sr_put (x := 58) hn S1 (by rw [List.length_append]; omega) (by decide) fun G2 S2 => bX12_show_138 hn ?_
        refine sr_later hn S2 (by omega) (by decide) ⟨by omega, by omega⟩ fun G3 S3 => bX12_show_144 hn (bX12_show_193 hn ?_)
        refine ih y G3 _ σ hy (by omega) (by simp only [List.length_append]; show E.length + _ + 1 + _ ≤ 4800; omega) (by omega) S3 fun G4 S4 => h G4 ?_
        rw [List.append_assoc, List.append_assoc] at S4
        rw [List.append_assoc]; exact S4
      · have un : sdT (txF a f) (a 62) s = [45] := if_pos c
        rw [un] at h
        exact sr_put (x := 45) hn p5 (by omega) (by decide) fun G1 S1 => bX12_show_118 hn (bX12_show_193 hn (h G1 S1))
    intro x G E σ hx hf hl hσ hS h
    obtain ⟨p1, p2, p3, p4, p5⟩ := hS.pop
    have q := (hI.2.2.1 x hx).1
    have dx := (hD x hx).2.1
    have un : txF a (f + 1) x = if a 57 x = 2 ∨ a 57 x = 3 then [40] ++ sdT (txF a f) (a 62) (a 66 x) ++ midT a x ++ sdT (txF a f) (a 62) (a 67 x) ++ [41] else leafT a x := rfl
    refine bX12_show_39 hn ⟨fun q => by omega, fun _ => ⟨⟨by omega, by omega⟩, ⟨by omega, by omega⟩, ?_⟩⟩
    rw [p1, p3, p4]
    refine ⟨fun q => absurd q (by decide), fun _ => ?_, fun q => absurd q (by decide), fun q => absurd q (by decide)⟩
    have g57 : up2 G 53 57 (G 53 57 - 1) 57 ((x : Nat) : Int).toNat = a 57 x := p5.1 57 x (by decide) (by decide) (by decide) (Or.inl (by decide))
    have rodc : (a 57 x = 2 ∨ a 57 x = 3) → V miX12_showPart (d + 2) 5 [(0, .ref 53), (1, I_ (x : Int))] [I_ 1] n (W0 dy) (up2 G 53 57 (G 53 57 - 1)) 0 0 (fun v n' S' g' => V miX12_show (d + 3) 105 [(0, .ref 53), (1, I_ x1), (2, I_ (x : Int))] (v.toList ++ []) n' S' g' 0 0 P) := fun rod => by
      rw [un, if_pos rod] at h hl
      have ee : E ++ ([40] ++ sdT (txF a f) (a 62) (a 66 x) ++ midT a x ++ sdT (txF a f) (a 62) (a 67 x) ++ [41]) = E ++ [40] ++ sdT (txF a f) (a 62) (a 66 x) ++ midT a x ++ sdT (txF a f) (a 62) (a 67 x) ++ [41] := by simp only [List.append_assoc]
      rw [ee] at h
      simp only [List.length_append] at hl
      have hl : E.length + (1 + (sdT (txF a f) (a 62) (a 66 x)).length + (midT a x).length + (sdT (txF a f) (a 62) (a 67 x)).length + 1) ≤ 4800 := hl
      have ml := midT_len (a := a) x
      refine bX12_showPart_5 hn ⟨by decide, fun _ => ?_, fun z => absurd z (by decide)⟩
      refine sr_put (x := 40) hn p5 (by omega) (by decide) fun G1 S1 => bX12_showPart_41 hn ?_
      refine sr_later hn S1 (by omega) (by decide) (by decide) fun G2 S2 => bX12_showPart_48 hn ⟨⟨by omega, by omega⟩, ?_⟩
      have e67 : G2 67 ((x : Nat) : Int).toNat = a 67 x := S2.1 67 x (by decide) (by decide) (by decide) (Or.inl (by decide))
      rw [e67]
      have b67 := q.2.2.2.2
      have b66 := q.2.2.2.1
      refine sr_later hn S2 (by rw [List.length_append]; show σ.length + 1 < 400; omega) (by decide) ⟨by omega, by omega⟩ fun G3 S3 => bX12_showPart_59 hn ?_
      refine sr_later hn S3 (by simp only [List.length_append]; show σ.length + 1 + 1 < 400; omega) (by decide) ⟨by omega, by omega⟩ fun G4 S4 => bX12_showPart_65 hn ⟨⟨by omega, by omega⟩, ?_⟩
      have e66 : G4 66 ((x : Nat) : Int).toNat = a 66 x := S4.1 66 x (by decide) (by decide) (by decide) (Or.inl (by decide))
      rw [e66]
      refine sr_later hn S4 (by simp only [List.length_append]; show σ.length + 1 + 1 + 1 < 400; omega) (by decide) ⟨by omega, by omega⟩ fun G5 S5 => bX12_showPart_76 hn (bX12_show_105 hn (bX12_show_193 hn ?_))
      refine side (a 66 x) G5 _ _ x ⟨b66.1, b66.2.1⟩ (fun z => (b66.2.2 z).1) hx hf (by rw [List.length_append]; show E.length + 1 + _ ≤ 4800; omega) (by simp only [List.length_append]; show σ.length + 1 + 1 + 1 + _ ≤ 300; omega) S5 fun G6 S6 => ?_
      refine it2 (d := d + 1) hn hI hx rod (by simp only [List.length_append]; show E.length + 1 + _ + 23 ≤ 4900; omega) (by simp only [List.length_append]; show σ.length + 1 + 1 < 399; omega) S6 fun G7 S7 => ?_
      refine side (a 67 x) G7 _ _ x ⟨b67.1, b67.2.1⟩ (fun z => (b67.2.2 z).1) hx hf (by simp only [List.length_append]; show E.length + 1 + _ + _ + _ ≤ 4800; omega) (by rw [List.length_append]; show σ.length + 1 + _ ≤ 300; omega) S7 fun G8 S8 => ?_
      exact it3 (d := d + 1) hn (by simp only [List.length_append]; show E.length + 1 + _ + _ + _ ≤ 4900; omega) (by omega) S8 h
    refine wX12_showPart hn (wX12_isRod hn ⟨⟨by omega, by omega⟩, ?_⟩)
    rw [g57]
    refine ⟨fun z => rodc (Or.inl z), fun z => ⟨fun z2 => ?_, fun z2 => rodc (Or.inr z2)⟩⟩
    have leaf : ¬ (a 57 x = 2 ∨ a 57 x = 3) := fun w => w.elim z z2
    rw [un, if_neg leaf] at h hl
    have ow := (own_b hI hx).1
    have ll : (leafT a x).length = (if a 57 x = 4 then [(112 : Int)] else []).length + (num (a 63 x).toNat).length := by unfold leafT; rw [List.length_append]
    have nl := num_len (a 63 x).toNat
    have fin : ∀ (G1 : Hp) (E1 : List Int), SR a G1 E1 σ → E1 = E ++ (if a 57 x = 4 then [112] else []) → V miX12_showPart (d + 2) 24 [(0, .ref 53), (1, I_ (x : Int))] [] n (W0 dy) G1 0 0 (fun v n' S' g' => V miX12_show (d + 3) 105 [(0, .ref 53), (1, I_ x1), (2, I_ (x : Int))] (v.toList ++ []) n' S' g' 0 0 P) := fun G1 E1 S1 e1 => by
      refine bX12_showPart_24 hn ⟨⟨by omega, by omega⟩, ?_⟩
      have e63 : G1 63 ((x : Nat) : Int).toNat = a 63 x := S1.1 63 x (by decide) (by decide) (by decide) (Or.inl (by decide))
      rw [e63]
      have len1 : E1.length ≤ E.length + 1 := by rw [e1, List.length_append]; split <;> simp
      refine sr_num hn S1 (by omega) ⟨by omega, by omega⟩ fun G2 S2 => bX12_showPart_34 hn (bX12_show_105 hn (bX12_show_193 hn (h G2 ?_)))
      unfold leafT
      rw [← List.append_assoc, ← e1]; exact S2
    refine bX12_showPart_5 hn ⟨by decide, fun w => absurd rfl w, fun _ => ⟨⟨by omega, by omega⟩, ?_⟩⟩
    rw [g57]
    refine ⟨fun w => fin _ E p5 (by rw [if_neg w, List.append_nil]), fun w => ?_⟩
    exact sr_put (x := 112) hn p5 (by omega) (by decide) fun G1 S1 => fin G1 _ S1 (by rw [if_pos w]; rfl)
theorem rs_show {g : Hp} {x1 : Int} (hn : 100 ≤ n) (hI : Inv g) (h1 : i3 x1) (h : ∀ v g' a', opShow (up2 (up2 g 53 1 0) 53 0 0) x1 = (v, a') → rz g' = rz a' → Kc (up2 (up2 g 53 1 0) 53 0 0) g' → P (some (I_ v)) n (W0 dy) g') : Runs miX12_show (d + 3) [.ref 53, I_ x1] n (W0 dy) g P := by
  have hI1 : Inv (up2 g 53 1 0) := hI
  refine wX12_show hn ?_
  generalize (up2 g 53 1 0) = g1 at h hI1 ⊢
  clear hI
  refine spX12_topped hn hI1.1.2 h1 (bX12_show_11 hn ⟨topI_i3 _ _, fun q => ?_, fun q => ?_⟩)
  · have c := topI_le q
    rw [c]
    obtain ⟨c1, c2, c3⟩ := topI_0 c
    obtain ⟨k, rfl⟩ := exN c1
    have hI2 : Inv (up2 g1 53 0 0) := hI1
    have ct : topI (up2 g1 53 0 0) (k : Int) = 0 := c
    have c2' : (k : Int) < up2 g1 53 0 0 53 5 := c2
    generalize (up2 g1 53 0 0) = a at h hI2 ct c2' ⊢
    clear q c c1 c2 c3 hI1
    have eop : opShow a (k : Int) = (((txF a 60 k).length : Int), wrT a (txF a 60 k)) := by
      unfold opShow; exact if_neg (by rw [ct]; omega)
    rw [eop] at h
    obtain ⟨dp, hD⟩ := hI2.dp
    have hN := hI2.1
    have tl := txF_3600 (f := 60) hI2 c2'
    have S0 : SR a (up2 (up2 a 53 29 0) 53 57 0) [] [] := by
      refine ⟨fun i q i1 i2 i3 i4 => ?_, ⟨?_, fun i x e => by simp at e, fun i _ => ?_⟩, ?_, fun i p e => by simp at e⟩
      · rw [up2_ap, if_neg (by omega), up2_ap, if_neg (by omega)]
      · rw [up2_k, if_neg (by decide), up2_s]; rfl
      · rw [up2_i (by decide), up2_i (by decide)]
      · rw [up2_s]; rfl
    refine sr_later hn S0 (by decide) (by decide) ⟨by omega, by omega⟩ fun G1 S1 => ?_
    refine it01 hn hI2 hD 60 k G1 [] [] c2' (by omega) (by show 0 + _ ≤ 4800; omega) (by show 0 + _ ≤ 300; omega) S1 fun G2 S2 => ?_
    rw [List.nil_append] at S2
    obtain ⟨s1, s2, s3, -⟩ := S2
    have s3 : G2 53 57 = 0 := s3
    refine bX12_show_39 hn ⟨fun _ => ?_, fun q => by omega⟩
    rw [s2.1]
    refine h _ _ _ rfl (rz_eq fun i q hl => ?_) fun i q hi => s1 i q (by omega) (by omega) (by omega) (by omega)
    unfold wrT
    by_cases w : i = 53 ∧ q = 29
    · rw [if_pos w, w.1, w.2]; exact s2.1
    · rw [if_neg w]
      by_cases w2 : i = 78
      · rw [w2]
        by_cases w3 : q < (txF a 60 k).length ∧ q < 600
        · rw [if_pos ⟨rfl, w3⟩]
          have e : (txF a 60 k)[q]? = some ((txF a 60 k)[q]'w3.1) := List.getElem?_eq_some_iff.mpr ⟨w3.1, rfl⟩
          rw [s2.2.1 q _ e w3.2, e]; rfl
        · rw [if_neg fun z => w3 z.2]
          exact s2.2.2 q (by omega)
      · rw [if_neg fun z => w2 z.1]
        exact s1 i q w2 (by unfold rl at hl; simp at hl; omega) (by unfold rl at hl; simp at hl; omega) (by unfold rl at hl; simp at hl; omega)
  · have e : up2 g1 53 0 (topI g1 x1) = up2 (up2 g1 53 0 0) 53 0 (topI g1 x1) := by rw [up2_up]
    rw [e]
    refine h _ _ _ ?_ rfl ((Kc.refl _).up (by omega))
    unfold opShow; exact if_pos q
end Show
