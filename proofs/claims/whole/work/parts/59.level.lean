/-! LEVEL: the reference's levels; bears, tilts, wrong -/
/-- what must hang where for a rod to be level, v being what each part weighs -/
def lp (a : Hp) (v : Nat → Int) (k : Nat) : Int := 2 * sd a v (a 67 k) + a 63 k
def lq (a : Hp) (v : Nat → Int) (k : Nat) : Int := 2 * (sd a v (a 66 k) + sd a v (a 67 k) + a 63 k)
def lnv (a : Hp) (v : Nat → Int) (k : Nat) : Int := a 64 k * lq a v k - a 65 k * lp a v k
theorem lv_id (x y w p q : Int) : p * (2 * (x + y + w)) - q * (2 * y + w) = 2 * (x * p - y * (q - p)) + w * (2 * p - q) := by grind
theorem lnv_len (a : Hp) (k : Nat) : lnv a (a 63) k = len a k := lv_id _ _ _ _ _
theorem sgn_div {P Q p q : Int} {b : Nat} (hb : 0 < b) (hP : (b : Int) ∣ P) (hQ : (b : Int) ∣ Q) : (b : Int) * (p * (Q.tdiv b) - q * (P.tdiv b)) = p * Q - q * P := by
  obtain ⟨u, rfl⟩ := hP
  obtain ⟨v, rfl⟩ := hQ
  rw [Int.mul_tdiv_cancel_left _ (by omega), Int.mul_tdiv_cancel_left _ (by omega)]
  grind
def sgI (x : Int) : Int := if x < 0 then -1 else if 0 < x then 1 else 0
theorem sg_mul {b e : Int} (hb : 0 < b) : sgI (b * e) = sgI e := by
  unfold sgI
  by_cases c : e < 0
  · rw [if_pos c, if_pos (Int.mul_neg_of_pos_of_neg hb c)]
  · rw [if_neg c]
    by_cases c2 : 0 < e
    · have := Int.mul_pos hb c2
      rw [if_neg (by omega), if_pos this, if_pos c2]
    · have : e = 0 := by omega
      rw [this, Int.mul_zero, if_neg (by omega), if_neg (by omega)]
theorem mul_big {b e B : Int} (hb : 1 ≤ b) (h : -B ≤ b * e ∧ b * e ≤ B) (hB : 0 ≤ B) : -B ≤ e ∧ e ≤ B := by
  rcases Int.le_total 0 e with c | c
  · have : 1 * e ≤ b * e := Int.mul_le_mul_of_nonneg_right hb c
    omega
  · have : b * e ≤ 1 * e := Int.mul_le_mul_of_nonpos_right hb c
    omega
section Level
variable {d n : Nat} {dy : Nat → Shp} {g a G : Hp} {P : Pst} {v : Nat → Int}
def VB (a : Hp) (v : Nat → Int) : Prop := ∀ y : Nat, (y : Int) < a 53 5 → 0 ≤ v y ∧ v y ≤ 16000000
/-- the reference's scratch: G is a but there; row 74 holds the loads -/
def LR (a G : Hp) (v : Nat → Int) : Prop := (∀ i q, i ≠ 71 → i ≠ 72 → i ≠ 74 → i ≠ 75 → i ≠ 76 → G i q = a i q) ∧ ∀ y : Nat, (y : Int) < a 53 5 → G 74 y = ld a v y
theorem VB.own (hI : Inv a) : VB a (a 63) := fun _ hy => (own_b hI hy).1
theorem sdv_b (hI : Inv a) (hv : VB a v) (s : Int) : 0 ≤ sd a v s ∧ sd a v s ≤ 960000000 := by
  have := ld_b hI (v := v) (B := 16000000) (by decide) hv s.toNat
  unfold sd
  split <;> omega
theorem lp_b (hI : Inv a) (hv : VB a v) {k : Nat} (hk : (k : Int) < a 53 5) : 0 ≤ lp a v k ∧ lp a v k ≤ 1936000000 := by
  have h1 := sdv_b hI hv (a 67 k)
  have h2 := (own_b hI hk).1
  unfold lp; omega
theorem lq_b (hI : Inv a) (hv : VB a v) {k : Nat} (hk : (k : Int) < a 53 5) : lp a v k ≤ lq a v k ∧ lq a v k ≤ 3872000000 := by
  have h1 := sdv_b hI hv (a 67 k)
  have h3 := sdv_b hI hv (a 66 k)
  have h2 := (own_b hI hk).1
  unfold lp lq; omega
theorem sp_loadAt {s : Int} (hn : 100 ≤ n) (hI : Inv a) (hL : LR a G v) (hs : -1 ≤ s ∧ s < a 53 5) (h : P (some (L_ (sd a v s))) n (W0 dy) G) : Runs miX12_loadAt d [.ref 53, I_ s] n (W0 dy) G P := by
  have hN := hI.1
  unfold sd at h
  refine wX12_loadAt hn ⟨⟨by omega, by omega⟩, fun q => ⟨by omega, ?_⟩, fun q => ?_⟩
  · rw [if_pos q] at h; rw [hL.2 s.toNat (by omega)]; exact h
  · rw [if_neg (by omega)] at h; exact h
theorem sp_levelP {k : Nat} (hn : 100 ≤ n) (hI : Inv a) (hL : LR a G v) (hk : (k : Int) < a 53 5) (h : P (some (L_ (lp a v k))) n (W0 dy) G) : Runs miX12_levelP (d + 1) [.ref 53, I_ (k : Int)] n (W0 dy) G P := by
  have hN := hI.1
  have hp := (hI.2.2.1 k hk).1.2.2.2.2
  refine wX12_levelP hn ⟨by omega, ?_⟩
  rw [show G 67 ((k : Nat) : Int).toNat = a 67 k from hL.1 67 k (by omega) (by omega) (by omega) (by omega) (by omega)]
  refine sp_loadAt hn hI hL ⟨hp.1, hp.2.1⟩ (bX12_levelP_13 hn ⟨by omega, ?_⟩)
  rw [show G 63 ((k : Nat) : Int).toNat = a 63 k from hL.1 63 k (by omega) (by omega) (by omega) (by omega) (by omega)]
  exact h
theorem sp_levelQ {k : Nat} (hn : 100 ≤ n) (hI : Inv a) (hL : LR a G v) (hk : (k : Int) < a 53 5) (h : P (some (L_ (lq a v k))) n (W0 dy) G) : Runs miX12_levelQ (d + 1) [.ref 53, I_ (k : Int)] n (W0 dy) G P := by
  have hN := hI.1
  have hp := (hI.2.2.1 k hk).1.2.2.2
  refine wX12_levelQ hn ⟨by omega, ?_⟩
  rw [show G 66 ((k : Nat) : Int).toNat = a 66 k from hL.1 66 k (by omega) (by omega) (by omega) (by omega) (by omega)]
  refine sp_loadAt hn hI hL ⟨hp.1.1, hp.1.2.1⟩ (bX12_levelQ_13 hn ⟨by omega, ?_⟩)
  rw [show G 67 ((k : Nat) : Int).toNat = a 67 k from hL.1 67 k (by omega) (by omega) (by omega) (by omega) (by omega)]
  refine sp_loadAt hn hI hL ⟨hp.2.1, hp.2.2.1⟩ (bX12_levelQ_23 hn ⟨by omega, ?_⟩)
  rw [show G 63 ((k : Nat) : Int).toNat = a 63 k from hL.1 63 k (by omega) (by omega) (by omega) (by omega) (by omega)]
  exact h
theorem lnv_b (hI : Inv a) (hv : VB a v) {k : Nat} (hk : (k : Int) < a 53 5) (c : a 57 k = 2 ∨ a 57 k = 3) : -9000000000000000000 ≤ lnv a v k ∧ lnv a v k ≤ 9000000000000000000 := by
  obtain ⟨b1, b2⟩ := rod_k hI hk c
  have h1 := sdv_b hI hv (a 67 k)
  have h3 := sdv_b hI hv (a 66 k)
  have e := lv_id (sd a v (a 66 k)) (sd a v (a 67 k)) (a 63 k) (a 64 k) (a 65 k)
  have p1 := pr_b h3 (show 0 ≤ a 64 k ∧ a 64 k ≤ 1920000000 by omega)
  have p2 := pr_b h1 (show 0 ≤ a 65 k - a 64 k ∧ a 65 k - a 64 k ≤ 1920000000 by omega)
  have p3 := pr_b b1 (show 0 ≤ a 64 k ∧ a 64 k ≤ 1920000000 by omega)
  have p4 := pr_b b1 (show 0 ≤ a 65 k ∧ a 65 k ≤ 1920000000 by omega)
  have e2 : a 63 k * (2 * a 64 k - a 65 k) = 2 * (a 63 k * a 64 k) - a 63 k * a 65 k := by
    rw [Int.mul_sub, ← Int.mul_assoc, Int.mul_comm (a 63 k) 2, Int.mul_assoc]
  unfold lnv lp lq
  rw [e, e2]
  generalize sd a v (a 66 k) * a 64 k = m1 at *
  generalize sd a v (a 67 k) * (a 65 k - a 64 k) = m2 at *
  generalize a 63 k * a 64 k = m3 at *
  generalize a 63 k * a 65 k = m4 at *
  clear e e2
  omega
theorem sp_tilt {k : Nat} (hn : 100 ≤ n) (hI : Inv a) (hv : VB a v) (hL : LR a G v) (hk : (k : Int) < a 53 5) (c : a 57 k = 2 ∨ a 57 k = 3) (h : P (some (I_ (sgI (lnv a v k)))) n (W0 dy) G) : Runs miX12_tilt (d + 2) [.ref 53, I_ (k : Int)] n (W0 dy) G P := by
  have hN := hI.1
  have bp := lp_b hI hv hk
  have bq := lq_b hI hv hk
  have bl := lnv_b hI hv hk c
  refine wX12_tilt hn (sp_levelP hn hI hL hk (bX12_tilt_5 hn (sp_levelQ hn hI hL hk (bX12_tilt_11 hn ?_))))
  have m6 : mx6 = 9223372036854775807 := rfl
  refine spX12_common hn (by omega) (by omega) ?_
  have dP : ((Int.gcd (lp a v k) (lq a v k) : Nat) : Int) ∣ lp a v k := Int.gcd_dvd_left ..
  have dQ : ((Int.gcd (lp a v k) (lq a v k) : Nat) : Int) ∣ lq a v k := Int.gcd_dvd_right ..
  have gz : Int.gcd (lp a v k) (lq a v k) = 0 → lnv a v k = 0 := fun z => by
    obtain ⟨z1, z2⟩ := Int.gcd_eq_zero_iff.mp z
    unfold lnv; rw [z1, z2, Int.mul_zero, Int.mul_zero]; rfl
  have gl : ((Int.gcd (lp a v k) (lq a v k) : Nat) : Int) ≤ 3872000000 := by
    by_cases z : Int.gcd (lp a v k) (lq a v k) = 0
    · omega
    · by_cases z2 : lq a v k = 0
      · have : lp a v k = 0 := by omega
        rw [this, z2] at z; exact absurd rfl z
      · exact Int.le_trans (Int.le_of_dvd (by omega) dQ) bq.2
  generalize Int.gcd (lp a v k) (lq a v k) = b at *
  refine bX12_tilt_19 hn ⟨⟨by omega, by omega⟩, fun q => ⟨by omega, ⟨by omega, by omega⟩, q, ⟨by omega, by omega⟩, q, ?_⟩, fun q => ?_⟩
  · rw [show G 64 ((k : Nat) : Int).toNat = a 64 k from hL.1 64 k (by omega) (by omega) (by omega) (by omega) (by omega), show G 65 ((k : Nat) : Int).toNat = a 65 k from hL.1 65 k (by omega) (by omega) (by omega) (by omega) (by omega)]
    have hb : 0 < b := by omega
    have e := sgn_div (p := a 64 k) (q := a 65 k) hb dP dQ
    have e : (b : Int) * (a 64 k * (lq a v k).tdiv b - a 65 k * (lp a v k).tdiv b) = lnv a v k := e
    rw [← e, sg_mul (by omega)] at h
    rw [← e] at bl
    have be := mul_big (by omega) bl (by omega)
    generalize a 64 k * (lq a v k).tdiv b - a 65 k * (lp a v k).tdiv b = w at *
    refine wX12_sign hn ⟨⟨by omega, by omega⟩, fun q1 => ⟨fun q2 => bX12_tilt_57 hn ?_, fun q2 => bX12_tilt_57 hn ?_⟩, fun q1 => bX12_tilt_57 hn ?_⟩
    · unfold sgI at h; rw [if_neg (by omega), if_neg (by omega)] at h; exact h
    · unfold sgI at h; rw [if_neg (by omega), if_pos q2] at h; exact h
    · unfold sgI at h; rw [if_pos q1] at h; exact h
  · rw [gz (by omega)] at h; exact h
theorem ld_cg {a b : Hp} {v w : Nat → Int} (e60 : b 60 = a 60) (e5 : b 53 5 = a 53 5) (e : ∀ y : Nat, (y : Int) < a 53 5 → w y = v y) (k : Nat) : ld b w k = ld a v k := by
  unfold ld
  rw [e60, e5]
  exact sumN_cg _ fun y hy => by rw [e y (by omega)]
theorem LR.inv (hI : Inv a) (hL : LR a G v) : Inv G := hI.cg (rz_eq fun i q hl => hL.1 i q (by unfold rl at hl; simp at hl; omega) (by unfold rl at hl; simp at hl; omega) (by unfold rl at hl; simp at hl; omega) (by unfold rl at hl; simp at hl; omega) (by unfold rl at hl; simp at hl; omega))
theorem LR.rz (hL : LR a G v) : rz G = rz a := rz_eq fun i q hl => hL.1 i q (by unfold rl at hl; simp at hl; omega) (by unfold rl at hl; simp at hl; omega) (by unfold rl at hl; simp at hl; omega) (by unfold rl at hl; simp at hl; omega) (by unfold rl at hl; simp at hl; omega)
theorem LR.kc (hL : LR a G v) : Kc a G := fun i q hi => hL.1 i q (by omega) (by omega) (by omega) (by omega) (by omega)
/-- the loads with some gone -/
theorem rs_loads' {r : List Nat} (hn : 100 ≤ n) (hI : Inv a) (h0 : ∀ i q, i ≠ 71 → i ≠ 72 → i ≠ 74 → i ≠ 75 → i ≠ 76 → g i q = a i q) (hO : OD g g r) (hv : ∀ y : Nat, (y : Int) < a 53 5 → vg g y = v y) (h : ∀ G : Hp, LR a G v → (∀ i q, i ≠ 74 → G i q = g i q) → P none n (W0 dy) G) : Runs miX12_loads d [.ref 53] n (W0 dy) g P := by
  have hIg : Inv g := hI.cg (rz_eq fun i q hl => h0 i q (by unfold rl at hl; simp at hl; omega) (by unfold rl at hl; simp at hl; omega) (by unfold rl at hl; simp at hl; omega) (by unfold rl at hl; simp at hl; omega) (by unfold rl at hl; simp at hl; omega))
  have e5 : g 53 5 = a 53 5 := h0 53 5 (by omega) (by omega) (by omega) (by omega) (by omega)
  have e60 : g 60 = a 60 := funext fun q => h0 60 q (by omega) (by omega) (by omega) (by omega) (by omega)
  refine rs_loads hn hIg hO fun G hG h74 => h G ⟨fun i q c1 c2 c3 c4 c5 => (hG i q c3).trans (h0 i q c1 c2 c3 c4 c5), fun y hy => ?_⟩ hG
  rw [h74 y (by omega)]
  exact ld_cg e60 e5 hv y
theorem rs_allThere (hn : 100 ≤ n) (hI : Inv a) (h : ∀ (G : Hp) (r : List Nat), LR a G (a 63) → OD a G r → (∀ y : Nat, (y : Int) < a 53 5 → G 76 y = 0) → (∀ q, G 75 q = a 75 q) → P none n (W0 dy) G) : Runs miX12_allThere (d + 1) [.ref 53] n (W0 dy) a P := by
  have hN := hI.1
  have key : ∀ (t i : Nat) (g : Hp), (t : Int) + i = a 53 5 → (∀ i q, i ≠ 76 → g i q = a i q) → (∀ y : Nat, y < i → g 76 y = 0) → V miX12_allThere (d + 1) 2 [(0, .ref 53), (1, I_ (i : Int))] [] n (W0 dy) g 0 0 P := by
    intro t
    induction t with
    | zero =>
      intro i g hi hG hy
      have e5 := hG 53 5 (by omega)
      have e60 : g 60 = a 60 := funext fun q => hG 60 q (by omega)
      have hF : RF a := ⟨hI.1, hI.dp⟩
      refine bX12_allThere_2 hn ⟨⟨by omega, by omega⟩, fun _ => rs_orders hn (hF.mv e5 e60) fun G r hG2 hO => bX12_allThere_27 hn ?_, fun q => by omega⟩
      have hO2 : OD G G r := by
        unfold OD at hO ⊢
        rw [hG2 53 5 (by omega) (by omega), show G 60 = g 60 from funext fun q => hG2 60 q (by omega) (by omega)]; exact hO
      have hO3 : OD a G r := by
        unfold OD at hO ⊢
        rw [e5, e60] at hO; exact hO
      refine rs_loads' hn hI (v := a 63) (fun i q c1 c2 c3 c4 c5 => (hG2 i q c1 c2).trans (hG i q c5)) hO2 (fun y hy2 => ?_) fun G2 hL hG3 => bX12_allThere_31 hn (h G2 r hL ?_ (fun y hy2 => ?_) fun q => ?_)
      · unfold vg
        rw [hG2 76 y (by omega) (by omega), hy y (by omega), if_pos rfl, hG2 63 y (by omega) (by omega), hG 63 y (by omega)]
      · unfold OD at hO3 ⊢
        rw [show G2 71 = G 71 from funext fun q => hG3 71 q (by omega)]; exact hO3
      · rw [hG3 76 y (by omega), hG2 76 y (by omega) (by omega)]; exact hy y (by omega)
      · rw [hG3 75 q (by omega), hG2 75 q (by omega) (by omega)]; exact hG 75 q (by omega)
    | succ t ih =>
      intro i g hi hG hy
      have e5 := hG 53 5 (by omega)
      refine bX12_allThere_2 hn ⟨⟨by omega, by omega⟩, fun q => by omega, fun _ => ⟨by omega, ?_⟩⟩
      rw [show ((i : Nat) : Int) + 1 = ((i + 1 : Nat) : Int) by omega]
      refine ih (i + 1) _ (by omega) (fun x q hx => ?_) (fun y hy2 => ?_)
      · rw [up2_i hx]; exact hG x q hx
      · rw [up2_ap]
        show (if 76 = 76 ∧ y = i then 0 else g 76 y) = 0
        by_cases c : y = i
        · rw [if_pos ⟨rfl, c⟩]
        · rw [if_neg (fun z => c z.2)]; exact hy y (by omega)
  exact wX12_allThere hn (key (a 53 5).toNat 0 a (by omega) (fun _ _ _ => rfl) (fun y hy => by omega))
end Level
