/-! FEWEST: the reference -/
section Fewest4
variable {d n : Nat} {dy : Nat → Shp} {g a b G : Hp} {P : Pst} {k : Nat}
/-- the heap while sets are tried: W the weights, r the order -/
def FS (b G : Hp) (k : Nat) (W r : List Nat) : Prop := (∀ i q, i ≠ 74 → i ≠ 76 → G i q = b i q) ∧ ∀ y : Nat, (y : Int) < b 53 5 → y ∉ W → G 76 y = 0
def HB (b : Hp) (k : Nat) (W r : List Nat) : Prop := Inv b ∧ (k : Int) < b 53 5 ∧ W = wts b k (b 53 5).toNat ∧ W.length ≤ 14 ∧ OD b b r ∧ (∀ y : Nat, (y : Int) < b 53 5 → b 75 y = abvI (b 60) k y) ∧ (∀ j x : Nat, W[j]? = some x → b 96 j = (x : Int)) ∧ (∀ y : Nat, y < (b 53 5).toNat → abv (b 60) k 60 y = true → (b 57 y = 2 ∨ b 57 y = 3) → lnv b (b 63) y = 0)
abbrev lvl (b : Hp) (k : Nat) (W : List Nat) (S : Nat) : Prop := S = 0 ∨ (S = 2 ^ W.length - 1 ∧ bareP b k)
theorem pow14 : ∀ n : Fin 15, 2 ^ n.val ≤ 16384 ∧ 1 ≤ 2 ^ n.val := by decide
theorem rs_set {W r : List Nat} {x1 x2 best many : Int} {S : Nat} (hn : 100 ≤ n) (hB : HB b k W r) (hF : FS b G k W r) (hS : S < 2 ^ W.length) (h : ∀ G' w, FS b G' k W r → (lvl b k W S → w = (S : Int)) → (¬ lvl b k W S → w = best) → V miX12_fewest (d + 4) 172 [(0, .ref 53), (1, I_ x1), (2, I_ x2), (3, I_ (W.length : Int)), (4, I_ w), (5, I_ ((S : Int) + (-1)))] [] n (W0 dy) G' 0 0 P) : V miX12_fewest (d + 4) 211 [(0, .ref 53), (1, I_ x1), (2, I_ x2), (3, I_ (W.length : Int)), (4, I_ best), (5, I_ (S : Int)), (6, I_ many), (7, I_ 0)] [] n (W0 dy) G 0 0 P := by
  obtain ⟨hI, hk, eW, h14, hO, hM, h96, hl⟩ := hB
  have hN := hI.1
  have nd : W.Nodup := by rw [eW]; exact (wts_nd _).1
  have wN : ∀ j x : Nat, W[j]? = some x → (x : Int) < b 53 5 := fun j x e => by
    have := List.mem_of_getElem? e
    rw [eW] at this
    have := ((wts_in _).mp this).1
    omega
  have p14 := (pow14 ⟨W.length, by omega⟩).1
  have p14 : 2 ^ W.length ≤ 16384 := p14
  have key : ∀ (t : List Nat) (i : Nat) (G' : Hp), i ≤ W.length → W.drop i = t → FS b G' k W r → (∀ j x : Nat, j < i → W[j]? = some x → G' 76 x = if S.testBit (W.length - 1 - j) = true then 1 else 0) → V miX12_fewest (d + 4) 211 [(0, .ref 53), (1, I_ x1), (2, I_ x2), (3, I_ (W.length : Int)), (4, I_ best), (5, I_ (S : Int)), (6, I_ many), (7, I_ (i : Int))] [] n (W0 dy) G' 0 0 P := by
    intro t
    induction t with
    | nil =>
      intro i G' hi hr hF' hb
      have hl' := List.drop_eq_nil_iff.mp hr
      refine bX12_fewest_211 hn ⟨⟨by omega, by omega⟩, ⟨by omega, by omega⟩, fun _ => ?_, fun q => by omega⟩
      have e5 : G' 53 5 = b 53 5 := hF'.1 53 5 (by decide) (by decide)
      have e60 : G' 60 = b 60 := funext fun q => hF'.1 60 q (by decide) (by decide)
      have hO' : OD G' G' r := hO.mv e5 e60 (funext fun q => hF'.1 71 q (by decide) (by decide))
      have gn : GN b W S (fun y => decide (G' 76 y ≠ 0)) := by
        refine ⟨fun j y e => ?_, fun y hy hm => ?_⟩
        · have il := (List.getElem?_eq_some_iff.mp e).1
          show decide (G' 76 y ≠ 0) = true ↔ _
          rw [hb j y (by omega) e]
          cases hbb : S.testBit (W.length - 1 - j) with
          | true => exact ⟨fun _ => rfl, fun _ => by decide⟩
          | false => exact ⟨fun z => absurd (of_decide_eq_true z) (by decide), fun z => absurd z (by decide)⟩
        · show decide (G' 76 y ≠ 0) = false
          rw [hF'.2 y hy hm]; rfl
      refine rs_loads' (a := b) (v := vS b (fun y => decide (G' 76 y ≠ 0))) hn hI (fun i q c1 c2 c3 c4 c5 => hF'.1 i q c3 c5) hO' (fun y hy => ?_) fun G2 hL hG2 => bX12_fewest_259 hn ?_
      · unfold vg vS
        rw [hF'.1 63 y (by decide) (by decide)]
        by_cases c : G' 76 y = 0
        · rw [if_pos c, if_neg (fun z : decide (G' 76 y ≠ 0) = true => (of_decide_eq_true z) c)]
        · rw [if_neg c, if_pos (decide_eq_true c)]
      · have vb : VB b (vS b (fun y => decide (G' 76 y ≠ 0))) := fun y hy => by
          have := (own_b hI hy).1
          unfold vS; split <;> omega
        have hM2 : ∀ y : Nat, (y : Int) < b 53 5 → G2 75 y = abvI (b 60) k y := fun y hy => (hG2 75 y (by decide)).trans ((hF'.1 75 y (by decide) (by decide)).trans (hM y hy))
        refine sp_wrongRods hn hI vb hL hM2 ?_
        have hiff := lvl_iff hI hk hl (by rw [← eW]; exact hS) (by rw [← eW]; exact gn)
        rw [← eW] at hiff
        have wb := wrs_b hI (vS b (fun y => decide (G' 76 y ≠ 0))) k
        have hF2 : FS b G2 k W r := ⟨fun i q i1 i2 => (hG2 i q i1).trans (hF'.1 i q i1 i2), fun y hy hm => (hG2 76 y (by decide)).trans (hF'.2 y hy hm)⟩
        refine bX12_fewest_263 hn ⟨⟨by omega, by omega⟩, fun q => h G2 _ hF2 (fun z => absurd (hiff.mpr z) q) (fun _ => rfl), fun q => h G2 _ hF2 (fun _ => rfl) (fun z => absurd (hiff.mp q) z)⟩
    | cons x t ih =>
      intro i G' hi hr hF' hb
      obtain ⟨e, er, il⟩ := dropc hr
      have xN := wN i x e
      have e96 : G' 96 ((i : Nat) : Int).toNat = (x : Int) := (hF'.1 96 i (by decide) (by decide)).trans (h96 i x e)
      have bit : and3 (shr3 (S : Int) (((W.length : Int) - 1) - (i : Int))) 1 = if S.testBit (W.length - 1 - i) = true then 1 else 0 := by
        rw [show ((W.length : Int) - 1) - (i : Int) = ((W.length - 1 - i : Nat) : Int) by omega]
        exact bt_n (by omega) (by omega)
      have nx : ∀ v : Int, v = (if S.testBit (W.length - 1 - i) = true then 1 else 0) → V miX12_fewest (d + 4) 211 [(0, .ref 53), (1, I_ x1), (2, I_ x2), (3, I_ (W.length : Int)), (4, I_ best), (5, I_ (S : Int)), (6, I_ many), (7, I_ ((i : Int) + 1))] [] n (W0 dy) (up2 G' 76 x v) 0 0 P := fun v hv => by
        rw [show ((i : Nat) : Int) + 1 = ((i + 1 : Nat) : Int) by omega]
        refine ih (i + 1) _ (by omega) er ⟨fun j q j1 j2 => (up2_i j2).trans (hF'.1 j q j1 j2), fun y hy hm => ?_⟩ (fun j y hj ey => ?_)
        · rw [up2_k, if_neg fun z : y = x => hm (by rw [z]; exact List.mem_of_getElem? e)]; exact hF'.2 y hy hm
        · rw [up2_k]
          by_cases c : j = i
          · rw [c, e] at ey
            have ey : x = y := by simpa using ey
            rw [if_pos ey.symm, c]; exact hv
          · rw [if_neg (nd_ne nd ey e c)]; exact hb j y (by omega) ey
      refine bX12_fewest_211 hn ⟨⟨by omega, by omega⟩, ⟨by omega, by omega⟩, fun q => by omega, fun _ => ⟨⟨by omega, by omega⟩, ?_⟩⟩
      rw [bit, e96]
      refine ⟨fun q => ⟨⟨by omega, by omega⟩, nx 0 ?_⟩, fun q => ⟨⟨by omega, by omega⟩, nx 1 q.symm⟩⟩
      by_cases c : S.testBit (W.length - 1 - i) = true
      · rw [if_pos c] at q; exact absurd rfl q
      · rw [if_neg c]
  exact key W 0 G (Nat.zero_le _) rfl hF (fun j x hj => by omega)
/-- the best set once those from u on are tried -/
def bst (b : Hp) (k : Nat) (W : List Nat) (x2 : Int) (u : Nat) : Int := if u = 2 ^ W.length then -1 else if u = 0 ∧ x2 = 0 then 0 else if x2 ≤ (W.length : Int) ∧ bareP b k then ((2 ^ W.length - 1 : Nat) : Int) else -1
theorem bare_0 (hI : Inv b) {W : List Nat} (eW : W = wts b k (b 53 5).toNat) (h0 : W.length = 0) : bareP b k := fun y hy ha rod => by
  have hN := hI.1
  obtain ⟨dp, hD⟩ := hI.dp
  have none : ∀ z : Nat, (z : Int) < b 53 5 → ¬ Wt b k z := fun z hz w => by
    have : z ∈ W := by rw [eW]; exact (wts_in _).mpr ⟨by omega, w⟩
    rw [List.eq_nil_of_length_eq_zero h0] at this
    simp at this
  have q := (hI.2.2.1 y (by omega)).1
  have e : ∀ s : Int, s < b 53 5 → (0 ≤ s → b 60 s.toNat = (y : Int)) → sd b (v9 b) s = 0 := fun s hs hs2 => by
    unfold sd
    split
    · rename_i c
      unfold ld
      refine (sumN_cg _ fun z hz => ?_).trans (sumN_zero _)
      by_cases az : abv (b 60) s.toNat 60 z = true
      · rw [if_pos az]
        have as : abv (b 60) k 60 s.toNat = true := by
          rw [abv_eq hD hN.2 (by omega), hs2 c]
          split
          · rfl
          · rw [if_neg (by omega)]; exact ha
        have ak := abv_tr hD hN.2 as _ z rfl (by omega) az
        unfold v9
        rw [if_neg fun w => none z (by omega) ⟨ak, w⟩]
      · rw [if_neg az]
    · rfl
  rw [e _ q.2.2.2.1.2.1 (fun z => (q.2.2.2.1.2.2 z).1), e _ q.2.2.2.2.2.1 (fun z => (q.2.2.2.2.2.2 z).1), Int.zero_mul, Int.zero_mul]
theorem rs_sets {W r : List Nat} {x1 x2 : Int} (hn : 100 ≤ n) (hB : HB b k W r) (h2 : 0 ≤ x2 ∧ x2 ≤ 14) (h : ∀ G', FS b G' k W r → V miX12_fewest (d + 4) 172 [(0, .ref 53), (1, I_ x1), (2, I_ x2), (3, I_ (W.length : Int)), (4, I_ (bst b k W x2 0)), (5, I_ (-1))] [] n (W0 dy) G' 0 0 P) : ∀ (u : Nat) (G : Hp), u ≤ 2 ^ W.length → FS b G k W r → V miX12_fewest (d + 4) 172 [(0, .ref 53), (1, I_ x1), (2, I_ x2), (3, I_ (W.length : Int)), (4, I_ (bst b k W x2 u)), (5, I_ ((u : Int) + (-1)))] [] n (W0 dy) G 0 0 P := by
  have h14 := hB.2.2.2.1
  obtain ⟨p1, p2⟩ := pow14 ⟨W.length, by omega⟩
  have p1 : 2 ^ W.length ≤ 16384 := p1
  have p2 : 1 ≤ 2 ^ W.length := p2
  have b0 := bare_0 hB.1 hB.2.2.1
  have full : bc ((2 ^ W.length - 1 : Nat) : Int) = (W.length : Int) := bc_full ⟨W.length, by omega⟩
  have c0 : bc 0 = 0 := bc_full ⟨0, by decide⟩
  have wz : W.length = 0 → 2 ^ W.length = 1 := fun z => by rw [z]
  have wnz : W.length ≠ 0 → 2 ≤ 2 ^ W.length := fun z => by
    have := Nat.pow_le_pow_right (n := 2) (by decide) (show 1 ≤ W.length by omega)
    omega
  intro u
  induction u with
  | zero =>
    intro G hu hF
    exact h G hF
  | succ u ih =>
    intro G hu hF
    rw [show ((u + 1 : Nat) : Int) + (-1) = (u : Int) by omega]
    have nx : ∀ (G' : Hp) (w : Int), FS b G' k W r → w = bst b k W x2 u → V miX12_fewest (d + 4) 172 [(0, .ref 53), (1, I_ x1), (2, I_ x2), (3, I_ (W.length : Int)), (4, I_ w), (5, I_ ((u : Int) + (-1)))] [] n (W0 dy) G' 0 0 P := fun G' w hF' e => by
      rw [e]; exact ih G' (by omega) hF'
    have bi := bc_i3 (u : Int)
    have sk : ((bc (u : Int) < x2) ∨ (0 ≤ bst b k W x2 (u + 1) ∧ bc (bst b k W x2 (u + 1)) ≤ bc (u : Int))) → bst b k W x2 (u + 1) = bst b k W x2 u := fun c => by
      unfold bst at c ⊢
      by_cases e : u + 1 = 2 ^ W.length
      · rw [if_pos e] at c ⊢
        have eu : u = 2 ^ W.length - 1 := by omega
        have bu : bc (u : Int) = (W.length : Int) := by rw [eu]; exact full
        rw [if_neg (by omega), if_neg (by omega), if_neg (fun z => by have := z.1; omega)]
      · rw [if_neg e, if_neg (by omega)] at c ⊢
        by_cases z : u = 0 ∧ x2 = 0
        · exfalso
          have bu0 : bc ((u : Nat) : Int) = 0 := by rw [z.1]; exact c0
          rw [bu0] at c
          have wl : W.length ≠ 0 := fun q => e (by rw [z.1, wz q])
          by_cases q : x2 ≤ (W.length : Int) ∧ bareP b k
          · rw [if_pos q, full] at c; omega
          · rw [if_neg q] at c; omega
        · rw [if_neg (c := u = 2 ^ W.length) (by omega), if_neg z]
    have ts : ¬ (bc (u : Int) < x2) → ∀ G' w, FS b G' k W r → (lvl b k W u → w = (u : Int)) → (¬ lvl b k W u → w = bst b k W x2 (u + 1)) → V miX12_fewest (d + 4) 172 [(0, .ref 53), (1, I_ x1), (2, I_ x2), (3, I_ (W.length : Int)), (4, I_ w), (5, I_ ((u : Int) + (-1)))] [] n (W0 dy) G' 0 0 P := fun c G' w hF' l1 l2 => by
      refine nx G' w hF' ?_
      by_cases L : lvl b k W u
      · rw [l1 L]
        unfold bst
        rw [if_neg (by omega)]
        by_cases z : u = 0
        · rw [z] at c ⊢
          have c : ¬ bc 0 < x2 := c
          rw [c0] at c
          rw [if_pos ⟨rfl, by omega⟩]; rfl
        · rw [if_neg fun w => z w.1]
          obtain ⟨e, hb⟩ := L.resolve_left z
          rw [e, full] at c
          rw [if_pos ⟨by omega, hb⟩, e]
      · rw [l2 L]
        unfold bst
        by_cases e : u + 1 = 2 ^ W.length
        · have nb : ¬ bareP b k := fun z => L (Or.inr ⟨by omega, z⟩)
          have uz : u ≠ 0 := fun z => L (Or.inl z)
          rw [if_pos e, if_neg (by omega), if_neg (fun z => uz z.1), if_neg (fun z => nb z.2)]
        · have uz : u ≠ 0 := fun z => L (Or.inl z)
          rw [if_neg e, if_neg (c := u + 1 = 0 ∧ x2 = 0) (by omega), if_neg (c := u = 2 ^ W.length) (by omega), if_neg (c := u = 0 ∧ x2 = 0) (fun z => uz z.1)]
    have bb : i3 (bst b k W x2 (u + 1)) ∧ (-1 ≤ bst b k W x2 (u + 1)) := by
      have : -1 ≤ bst b k W x2 (u + 1) ∧ bst b k W x2 (u + 1) ≤ 16384 := by
        unfold bst
        repeat' split
        all_goals omega
      exact ⟨⟨by omega, by omega⟩, this.1⟩
    refine bX12_fewest_172 hn ⟨⟨by omega, by omega⟩, fun q => by omega, fun _ => sp_bitCount hn (bX12_fewest_182 hn ⟨bi, ⟨by omega, by omega⟩, fun c => nx G _ hF (sk (Or.inl c)), fun c => ⟨bb.1, fun c2 => ?_, fun c2 => sp_bitCount hn (bX12_fewest_202 hn ⟨bi, bc_i3 _, fun c3 => ?_, fun c3 => nx G _ hF (sk (Or.inr ⟨c2, c3⟩))⟩)⟩⟩)⟩
    · exact rs_set hn hB hF (by omega) (ts (by omega))
    · exact rs_set hn hB hF (by omega) (ts (by omega))
end Fewest4
