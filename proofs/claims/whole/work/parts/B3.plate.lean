/-! PLATE: what it does; the reference -/
def cX (a : Hp) (t i : Nat) : Int := a 56 (16 * t + 2 * i)
def cY (a : Hp) (t i : Nat) : Int := a 56 (16 * t + (2 * i + 1))
def okN (a : Hp) (t m : Nat) : Prop := ∀ k : Nat, k < 2 * m → -1000 ≤ a 56 (16 * t + k) ∧ a 56 (16 * t + k) ≤ 1000
def crsS (x y : Nat → Int) (m i : Nat) : Int := x i * y (nx_ m i) - x (nx_ m i) * y i
noncomputable def plI (a : Hp) (x1 x2 : Int) : Int :=
  if x1 < 0 ∨ 6 ≤ x1 then 1 else if a 55 x1.toNat < 0 then 3 else if x2 < 3 ∨ 8 < x2 then 7 else if a 55 x1.toNat < 2 * x2 then 4
  else @ite Int (¬ okN a x1.toNat x2.toNat) (Classical.propDecidable _) 7 (@ite Int (¬ RG x2.toNat (cX a x1.toNat) (cY a x1.toNat)) (Classical.propDecidable _) 12 (if a 53 5 = 60 then 10 else 0))
/-- the new plate, its corners out of tray t -/
def plS (a : Hp) (t m : Nat) : Hp := fun i q =>
  if i = 69 ∧ (8 * (a 53 5).toNat ≤ q ∧ q < 8 * (a 53 5).toNat + m) then cX a t (q - 8 * (a 53 5).toNat)
  else if i = 70 ∧ (8 * (a 53 5).toNat ≤ q ∧ q < 8 * (a 53 5).toNat + m) then cY a t (q - 8 * (a 53 5).toNat)
  else up2 (nwp a 4 (ab (isum (crsS (cX a t) (cY a t) m) m))) 68 (a 53 5).toNat (m : Int) i q
noncomputable def opPlate (a : Hp) (x1 x2 : Int) : Int × Hp := if plI a x1 x2 ≠ 0 then (-1, up2 a 53 0 (plI a x1 x2)) else (a 53 5, plS a x1.toNat x2.toNat)
theorem tn_cg {n : Nat} {x y x' y' : Nat → Int} (h : ∀ i, i < n → x' i = x i ∧ y' i = y i) {a b c : Nat} (ha : a < n) (hb : b < n) (hc : c < n) : tn x' y' a b c = tn x y a b c ∧ (inB x' y' a b c ↔ inB x y a b c) := by
  unfold tn inB
  rw [(h a ha).1, (h a ha).2, (h b hb).1, (h b hb).2, (h c hc).1, (h c hc).2]
  exact ⟨rfl, Iff.rfl⟩
theorem RG_cg {n : Nat} {x y x' y' : Nat → Int} (h : ∀ i, i < n → x' i = x i ∧ y' i = y i) (hR : RG n x y) : RG n x' y' := by
  have on : ∀ a b c, a < n → b < n → c < n → (onS x' y' a b c ↔ onS x y a b c) := fun a b c ha hb hc => by
    obtain ⟨t1, t2⟩ := tn_cg h ha hb hc
    unfold onS; rw [t1, t2]
  refine ⟨fun i hi w => hR.1 i hi ?_, fun i j hij hj c1 c2 w => hR.2 i j hij hj c1 c2 ?_⟩
  · rw [fold_iff] at w ⊢
    have l1 := nx_lt hi
    have l2 := nx_lt l1
    rw [on _ _ _ hi l1 l2, on _ _ _ l1 l2 hi] at w; exact w
  · have hi : i < n := by omega
    have l1 := nx_lt hi
    have l2 := nx_lt hj
    unfold tch2 at w ⊢
    rw [on _ _ _ hi l1 hj, on _ _ _ hi l1 l2, on _ _ _ hj l2 hi, on _ _ _ hj l2 l1, (tn_cg h hi l1 hj).1, (tn_cg h hi l1 l2).1, (tn_cg h hj l2 hi).1, (tn_cg h hj l2 l1).1] at w; exact w
theorem isum_cg {f f' : Nat → Int} : ∀ {n : Nat}, (∀ i, i < n → f' i = f i) → isum f' n = isum f n
  | 0, _ => rfl
  | n + 1, h => by unfold isum; rw [isum_cg (n := n) fun i hi => h i (by omega), h n (by omega)]
theorem isum_b {f : Nat → Int} {B : Nat} : ∀ {n : Nat}, (∀ i, i < n → (f i).natAbs ≤ B) → (isum f n).natAbs ≤ B * n
  | 0, _ => by unfold isum; exact Nat.zero_le _
  | n + 1, h => by
    have h1 := isum_b (n := n) (B := B) fun i hi => h i (by omega)
    have h2 := h n (by omega)
    unfold isum
    rw [Nat.mul_add]; omega
theorem crs_bd {x y : Nat → Int} {m i : Nat} (hb : ∀ k, k < m → (-1000 ≤ x k ∧ x k ≤ 1000) ∧ (-1000 ≤ y k ∧ y k ≤ 1000)) (hi : i < m) : (crsS x y m i).natAbs ≤ 2000000 := by
  have l1 := nx_lt hi
  have b1 := hb i hi
  have b2 := hb _ l1
  have p1 := pb (x := x i) (y := y (nx_ m i)) (A := 1000) (B := 1000) (by omega) (by omega)
  have p2 := pb (x := x (nx_ m i)) (y := y i) (A := 1000) (B := 1000) (by omega) (by omega)
  unfold crsS; omega
theorem okN_c {a : Hp} {t m : Nat} (h : okN a t m) : ∀ k, k < m → (-1000 ≤ cX a t k ∧ cX a t k ≤ 1000) ∧ (-1000 ≤ cY a t k ∧ cY a t k ≤ 1000) := fun k hk => ⟨h (2 * k) (by omega), h (2 * k + 1) (by omega)⟩
section PlateM
variable {d n : Nat} {dy : Nat → Shp} {g a G : Hp} {P : Pst}
/-- the copying of the corners into the new part's rows -/
theorem rs_plate_copy {N m : Nat} {x1 x3 : Int} {A : Hp} (hn : 100 ≤ n) (hN : N < 60) (hm : m ≤ 8) (h : ∀ g', (∀ i q, i ≠ 69 → i ≠ 70 → g' i q = A i q) → (∀ q, g' 69 q = if 8 * N ≤ q ∧ q < 8 * N + m then A 79 (q - 8 * N) else A 69 q) → (∀ q, g' 70 q = if 8 * N ≤ q ∧ q < 8 * N + m then A 80 (q - 8 * N) else A 70 q) → P (some (I_ (N : Int))) n (W0 dy) g') : V miX12_plate (d + 1) 277 [(0, .ref 53), (1, I_ x1), (2, I_ (m : Int)), (3, L_ x3), (5, I_ (N : Int)), (6, I_ 0)] [] n (W0 dy) A 0 0 P := by
  have key : ∀ (f k : Nat) (G : Hp), k + f = m → (∀ i q, i ≠ 69 → i ≠ 70 → G i q = A i q) → (∀ q, G 69 q = if 8 * N ≤ q ∧ q < 8 * N + k then A 79 (q - 8 * N) else A 69 q) → (∀ q, G 70 q = if 8 * N ≤ q ∧ q < 8 * N + k then A 80 (q - 8 * N) else A 70 q) → V miX12_plate (d + 1) 277 [(0, .ref 53), (1, I_ x1), (2, I_ (m : Int)), (3, L_ x3), (5, I_ (N : Int)), (6, I_ (k : Int))] [] n (W0 dy) G 0 0 P := by
    intro f
    induction f with
    | zero =>
      intro k G hk g1 g2 g3
      rw [show k = m by omega] at g2 g3 ⊢
      exact bX12_plate_277 hn ⟨⟨by omega, by omega⟩, ⟨by omega, by omega⟩, fun _ => h G g1 g2 g3, fun q => by omega⟩
    | succ f ih =>
      intro k G hk g1 g2 g3
      refine bX12_plate_277 hn ⟨⟨by omega, by omega⟩, ⟨by omega, by omega⟩, fun q => by omega, fun _ => ⟨⟨by omega, by omega⟩, ⟨by omega, by omega⟩, ?_⟩⟩
      rw [show (8 * (N : Int) + (k : Int)).toNat = 8 * N + k by omega, show ((k : Nat) : Int).toNat = k from rfl]
      refine ih (k + 1) _ (by omega) (fun i q i1 i2 => by rw [up2_i i2, up2_i i1, g1 i q i1 i2]) (fun q => ?_) (fun q => ?_)
      · rw [up2_i (by omega), up2_k]
        by_cases c : q = 8 * N + k
        · rw [if_pos c, if_pos (by omega), g1 79 k (by omega) (by omega), c, show 8 * N + k - 8 * N = k by omega]
        · rw [if_neg c, g2 q]
          by_cases c2 : 8 * N ≤ q ∧ q < 8 * N + k
          · rw [if_pos c2, if_pos (by omega)]
          · rw [if_neg c2, if_neg (by omega)]
      · rw [up2_k]
        by_cases c : q = 8 * N + k
        · rw [if_pos c, if_pos (by omega), g1 80 k (by omega) (by omega), c, show 8 * N + k - 8 * N = k by omega]
        · rw [if_neg c, up2_i (by omega), g3 q]
          by_cases c2 : 8 * N ≤ q ∧ q < 8 * N + k
          · rw [if_pos c2, if_pos (by omega)]
          · rw [if_neg c2, if_neg (by omega)]
  exact key m 0 A (by omega) (fun _ _ _ _ => rfl) (fun q => by rw [if_neg (by omega)]) (fun q => by rw [if_neg (by omega)])
theorem rs_plate_make {m : Nat} {x1 : Int} (hn : 100 ≤ n) (hN : 0 ≤ G 53 5 ∧ G 53 5 < 60) (hR : RM G m) (h : ∀ g', (∀ i q, i ≠ 69 → i ≠ 70 → g' i q = up2 (nwp G 4 (ab (isum (crsS (G 79) (G 80) m) m))) 68 (G 53 5).toNat (m : Int) i q) → (∀ q, g' 69 q = if 8 * (G 53 5).toNat ≤ q ∧ q < 8 * (G 53 5).toNat + m then G 79 (q - 8 * (G 53 5).toNat) else G 69 q) → (∀ q, g' 70 q = if 8 * (G 53 5).toNat ≤ q ∧ q < 8 * (G 53 5).toNat + m then G 80 (q - 8 * (G 53 5).toNat) else G 70 q) → P (some (I_ (G 53 5))) n (W0 dy) g') : V miX12_plate (d + 1) 197 [(0, .ref 53), (1, I_ x1), (2, I_ (m : Int)), (3, L_ 0), (5, I_ 0)] [] n (W0 dy) G 0 0 P := by
  obtain ⟨hm, hb⟩ := hR
  have bd := fun k (hk : k ≤ m) => isum_b (f := crsS (G 79) (G 80) m) (B := 2000000) (n := k) fun i hi => crs_bd hb (by omega)
  have key : ∀ (f k : Nat), k + f = m → V miX12_plate (d + 1) 197 [(0, .ref 53), (1, I_ x1), (2, I_ (m : Int)), (3, L_ (isum (crsS (G 79) (G 80) m) k)), (5, I_ (k : Int))] [] n (W0 dy) G 0 0 P := by
    intro f
    induction f with
    | zero =>
      intro k hk
      have ek : k = m := by omega
      have b := bd k (by omega)
      have ba : 0 ≤ ab (isum (crsS (G 79) (G 80) m) k) ∧ ab (isum (crsS (G 79) (G 80) m) k) ≤ 16000000 := by
        unfold ab; split <;> omega
      refine bX12_plate_197 hn ⟨⟨by omega, by omega⟩, ⟨by omega, by omega⟩, fun _ => ⟨⟨by omega, by omega⟩, wX12_newPart hn ⟨hN, by decide, ⟨by omega, by omega⟩, ⟨by omega, by omega⟩, bX12_plate_264 hn ⟨hN, ⟨by omega, by omega⟩, ?_⟩⟩⟩, fun q => by omega⟩
      show V miX12_plate (d + 1) 277 [(0, .ref 53), (1, I_ x1), (2, I_ (m : Int)), (3, L_ (isum (crsS (G 79) (G 80) m) k)), (5, I_ (G 53 5)), (6, I_ 0)] [] n (W0 dy) (up2 (nwp G 4 (ab (isum (crsS (G 79) (G 80) m) k))) 68 (G 53 5).toNat (m : Int)) 0 0 P
      rw [ek]
      obtain ⟨N, eN⟩ := exN hN.1
      have eT : (G 53 5).toNat = N := by omega
      rw [eT] at h ⊢
      rw [eN] at h ⊢
      obtain ⟨w1, w2, -⟩ := nwp_at (kd := 4) (w := ab (isum (crsS (G 79) (G 80) m) m)) eN
      have row : ∀ i q, (i = 69 ∨ i = 70 ∨ i = 79 ∨ i = 80) → up2 (nwp G 4 (ab (isum (crsS (G 79) (G 80) m) m))) 68 N (m : Int) i q = G i q := fun i q hi => by
        rw [up2_i (by omega)]
        rcases w2 i q with z | z | z
        · omega
        · omega
        · exact z
      refine rs_plate_copy hn (by omega) (by omega) fun g' g1 g2 g3 => h g' g1 (fun q => ?_) (fun q => ?_)
      · rw [g2 q, row 79 _ (by omega), row 69 _ (by omega)]
      · rw [g3 q, row 80 _ (by omega), row 70 _ (by omega)]
    | succ f ih =>
      intro k hk
      have hk' : k < m := by omega
      have l1 := nx_lt hk'
      have hh := bX12_plate_197 (d := d) (dy := dy) (g := G) (P := P) (x1 := x1) (x2 := (m : Int)) (x3 := isum (crsS (G 79) (G 80) m) k) (x5 := (k : Int)) hn
      rw [nx_tmod hk'] at hh
      refine hh ⟨⟨by omega, by omega⟩, ⟨by omega, by omega⟩, fun q => by omega, fun _ => ⟨⟨by omega, by omega⟩, ⟨by omega, by omega⟩, by omega, ⟨by omega, by omega⟩, by omega, fun y ey => ?_⟩⟩
      have nx := ih (k + 1) (by omega)
      have e : isum (crsS (G 79) (G 80) m) (k + 1) = y := by rw [ey]; rfl
      rw [e] at nx
      exact nx
  exact key m 0 (by omega)
end PlateM
