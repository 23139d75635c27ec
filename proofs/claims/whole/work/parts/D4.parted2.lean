/-! PARTED OF THE REFERENCE: the answer -/
section Cong
variable {a b : Hp}
def eqS (a b : Hp) : Prop := (∀ i q, 57 ≤ i → i ≤ 67 → b i q = a i q) ∧ b 53 5 = a 53 5
theorem eqS.r (h : eqS a b) {i : Nat} (h1 : 57 ≤ i) (h2 : i ≤ 67) : b i = a i := funext fun q => h.1 i q h1 h2
theorem ld_cgS (h : eqS a b) (v : Nat → Int) (k : Nat) : ld b v k = ld a v k := by
  unfold ld; rw [h.2, h.r (i := 60) (by decide) (by decide)]
theorem sd_cgS (h : eqS a b) (v : Nat → Int) (s : Int) : sd b v s = sd a v s := by
  unfold sd; rw [ld_cgS h]
theorem nE_cgS (h : eqS a b) : nE b = nE a := by
  funext k; unfold nE; rw [h.r (i := 66) (by decide) (by decide), h.r (i := 67) (by decide) (by decide)]
theorem neS_cgS (h : eqS a b) (c : Int) : neS b c = neS a c := by
  unfold neS; rw [ld_cgS h, nE_cgS h]
theorem nrS_cgS (h : eqS a b) (c : Int) : nrS b c = nrS a c := sd_cgS h _ _
theorem OKp_cgS (h : eqS a b) (k : Nat) : OKp b k ↔ OKp a k := by
  unfold OKp; rw [h.r (i := 57) (by decide) (by decide), h.r (i := 58) (by decide) (by decide), h.r (i := 59) (by decide) (by decide), h.r (i := 64) (by decide) (by decide), h.r (i := 65) (by decide) (by decide)]
theorem ShO_cgS (h : eqS a b) (k : Nat) : ShO b k ↔ ShO a k := by
  unfold ShO; rw [neS_cgS h, h.2, h.r (i := 60) (by decide) (by decide)]
  exact ⟨fun z => ⟨fun y hy hab => (OKp_cgS h y).mp (z.1 y hy hab), z.2⟩, fun z => ⟨fun y hy hab => (OKp_cgS h y).mpr (z.1 y hy hab), z.2⟩⟩
theorem arL_cgS (h : eqS a b) : arL b = arL a := by
  funext k; unfold arL; rw [h.r (i := 59) (by decide) (by decide), h.r (i := 64) (by decide) (by decide), h.r (i := 65) (by decide) (by decide)]
theorem arR_cgS (h : eqS a b) : arR b = arR a := by
  funext k; unfold arR; rw [arL_cgS h, h.r (i := 59) (by decide) (by decide)]
theorem whS_cgS (h : eqS a b) : ∀ (f : Nat) (c x : Int), whS b f c x ↔ whS a f c x
  | 0, _, _ => Iff.rfl
  | f + 1, c, x => by
    unfold whS
    rw [arR_cgS h, h.r (i := 59) (by decide) (by decide), h.r (i := 66) (by decide) (by decide), h.r (i := 67) (by decide) (by decide), whS_cgS h f, whS_cgS h f]
theorem toS_cgS (h : eqS a b) : ∀ (f : Nat) (c x : Int), toS b f c x = toS a f c x
  | 0, _, _ => rfl
  | f + 1, c, x => by
    unfold toS
    rw [arR_cgS h, h.r (i := 59) (by decide) (by decide), h.r (i := 66) (by decide) (by decide), h.r (i := 67) (by decide) (by decide), toS_cgS h f, toS_cgS h f]
end Cong
section Parted2
variable {d n : Nat} {dy : Nat → Shp} {a g : Hp} {P : Pst}
theorem lvP.eq (h : lvP a g) : eqS a g := ⟨fun i q h1 h2 => h i q (by omega) (by omega), h 53 5 (by decide) (by decide)⟩
theorem lvP.rz (h : lvP a g) : rz g = rz a := rz_eq fun i q hl => h i q (by unfold rl at hl; simp at hl; omega) (by unfold rl at hl; simp at hl; omega)
theorem want_loop {x1 x2 x3 x4 x7 all : Int} {m : Nat} (hn : 100 ≤ n) (hm : m ≤ 8) (ha : i6 all) :
    ∀ (r e : Nat) (G : Hp), e + r = m → lvP a G → G 53 41 = (m : Int) → (G 53 51 = 0 → ∀ e', e' < m → G 93 e' ≠ 0) → (∀ e', e' < e → (G 53 51 ≠ 0 → G 88 e' = -1) ∧ (G 53 51 = 0 → (okE all (G 92 e') (G 93 e') → G 88 e' = bm6 ((bm6 (all * G 92 e')).tdiv (G 93 e'))) ∧ (¬ okE all (G 92 e') (G 93 e') → G 88 e' = -1))) →
      (∀ G' : Hp, lvP a G' → G' 53 41 = (m : Int) → (∀ i q, i ≠ 88 → G' i q = G i q) → (∀ e', e' < m → (G' 53 51 ≠ 0 → G' 88 e' = -1) ∧ (G' 53 51 = 0 → (okE all (G' 92 e') (G' 93 e') → G' 88 e' = bm6 ((bm6 (all * G' 92 e')).tdiv (G' 93 e'))) ∧ (¬ okE all (G' 92 e') (G' 93 e') → G' 88 e' = -1))) → P (some (I_ 0)) n (W0 dy) G') →
      V miX12_parted (d + 1) 210 [(0, .ref 53), (1, I_ x1), (2, I_ x2), (3, I_ x3), (4, I_ x4), (5, L_ all), (7, I_ x7), (8, I_ (e : Int))] [] n (W0 dy) G 0 0 P := by
  intro r
  induction r with
  | zero =>
    intro e G he hl h41 hne hd hgo
    exact bX12_parted_210w hn ⟨⟨by omega, by omega⟩, fun _ => hgo G hl h41 (fun _ _ _ => rfl) fun e' he' => hd e' (by omega), fun q => by omega⟩
  | succ r ih =>
    intro e G he hl h41 hne hd hgo
    have nx : ∀ x : Int, ((G 53 51 ≠ 0 → x = -1) ∧ (G 53 51 = 0 → (okE all (G 92 e) (G 93 e) → x = bm6 ((bm6 (all * G 92 e)).tdiv (G 93 e))) ∧ (¬ okE all (G 92 e) (G 93 e) → x = -1))) → V miX12_parted (d + 1) 210 [(0, .ref 53), (1, I_ x1), (2, I_ x2), (3, I_ x3), (4, I_ x4), (5, L_ all), (7, I_ x7), (8, I_ ((e : Int) + 1))] [] n (W0 dy) (up2 G 88 e x) 0 0 P := fun x hx => by
      rw [show (e : Int) + 1 = ((e + 1 : Nat) : Int) by omega]
      refine ih (e + 1) _ (by omega) (hl.up (by omega)) (by rw [up2_i (by decide)]; exact h41) ?_ (fun e' he' => ?_) (fun G' k1 k2 k3 k4 => hgo G' k1 k2 (fun i q hi => (k3 i q hi).trans (up2_i hi)) k4)
      · rw [up2_i (by decide)]
        intro q e' he'
        rw [up2_i (by decide)]; exact hne q e' he'
      · rw [up2_i (j := 53) (by decide), up2_i (j := 92) (by decide), up2_i (j := 93) (by decide), up2_k]
        by_cases c : e' = e
        · rw [if_pos c, c]; exact hx
        · rw [if_neg c]; exact hd e' (by omega)
    refine bX12_parted_210w hn ⟨⟨by omega, by omega⟩, fun q => by omega, fun _ => ⟨fun q => ⟨⟨by omega, by omega⟩, nx (-1) ⟨fun _ => rfl, fun z => absurd z q⟩⟩, fun q => ⟨⟨by omega, by omega⟩, ha, fun q1 => nx (-1) ⟨fun _ => rfl, fun _ => ⟨fun z => ?_, fun _ => rfl⟩⟩, fun q1 yp eyp => ⟨by rw [eyp]; exact bm6_r _, hne q e (by omega), ?_, fun q2 => ⟨hne q e (by omega), fun y ey => ⟨by rw [ey]; exact bm6_r _, nx y ⟨fun z => absurd q z, fun _ => ⟨fun _ => ?_, fun z => absurd ⟨q1, ?_⟩ z⟩⟩⟩⟩, fun q2 => nx (-1) ⟨fun _ => rfl, fun _ => ⟨fun z => absurd ?_ q2, fun _ => rfl⟩⟩⟩⟩⟩⟩
    · have q1' : all < G 93 e := q1
      have := z.1
      omega
    · have hy : i6 yp := by rw [eyp]; exact bm6_r _
      have hz : G 93 e ≠ 0 := hne q e (by omega)
      show i6 (yp.tmod (G 93 e))
      have h1 : (yp.tmod (G 93 e)).natAbs ≤ yp.natAbs := by
        rw [Int.natAbs_tmod]; exact Nat.mod_le _ _
      have h2 := hy.1
      have h3 := hy.2
      by_cases c : 0 ≤ yp
      · have := Int.tmod_nonneg (G 93 e) c
        constructor <;> omega
      · constructor
        · omega
        · have : yp.tmod (G 93 e) ≤ 0 := by
            have := Int.tmod_nonneg (a := -yp) (G 93 e) (by omega)
            rw [Int.neg_tmod] at this
            omega
          omega
    · rw [ey, eyp]; rfl
    · have : yp.tmod (G 93 e) = 0 := q2
      rw [eyp] at this
      exact this
    · rw [eyp]; exact z.2
end Parted2
