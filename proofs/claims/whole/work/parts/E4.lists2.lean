/-! THE SETS THAT THE CLASS LISTS: all of them -/
section Lists2
variable {d n : Nat} {dy : Nat → Shp} {g : Hp} {P : Pst} {N m : Nat} {v w : Nat → Int}
theorem dg_b (hN : N ≤ 10) (T : Nat) : 0 ≤ dg N T ∧ dg N T < 1073741824 := by
  rw [dg_hr]
  have h1 := hr_b (f := msk T fun _ => 1) N (fun j _ => by unfold msk; split; exact (by decide : 1 < 8); decide)
  have h2 : 8 ^ N ≤ 8 ^ 10 := Nat.pow_le_pow_right (by omega) hN
  have h3 : (8 : Nat) ^ 10 = 1073741824 := by decide
  omega
theorem shl8 {e : Nat} (h : e ≤ 9) : shl3 1 (3 * (e : Int)) = (8 : Int) ^ e := by
  have h1 := shl3_n ⟨3 * e, by omega⟩
  have h2 : (((⟨3 * e, by omega⟩ : Fin 31).val : Nat) : Int) = 3 * (e : Int) := by show ((3 * e : Nat) : Int) = _; omega
  rw [h2] at h1
  rw [h1]
  show ((2 ^ (3 * e) : Nat) : Int) = _
  rw [Nat.pow_mul, Int.natCast_pow]; rfl
theorem or_add {i r : Nat} (hr : r < 2 ^ i) : r ||| 2 ^ i = 2 ^ i + r := by
  refine Nat.eq_of_testBit_eq fun j => ?_
  rw [Nat.testBit_or, Nat.testBit_two_pow, tb_add hr]
  by_cases c : j = i
  · rw [if_pos c, decide_eq_true c.symm, Bool.or_true]
  · rw [if_neg c, decide_eq_false (fun z => c z.symm), Bool.or_false]
theorem sp_zero9 (hn : 100 ≤ n) (h : ∀ G : Hp, (∀ i q, i ≠ 33 → G i q = g i q) → (∀ p, p < 9 → G 33 p = 0) → P none n (W0 dy) G) : Runs miJ7_fill_53178 d [.ref 33, I_ 0] n (W0 dy) g P := by
  have ar : Ar n (W0 dy) 33 13 9 ∧ 9 ≤ 100000 := ⟨⟨⟨by decide, by omega⟩, rfl, rfl⟩, by decide⟩
  have key : ∀ (r p : Nat) (G : Hp), p + r = 9 → (∀ i q, i ≠ 33 → G i q = g i q) → (∀ p', p' < p → G 33 p' = 0) → V miJ7_fill_53178 d 5 [(0, .ref 33), (1, I_ 0), (2, I_ (p : Int)), (3, I_ ((9 : Nat) : Int))] [] n (W0 dy) G 0 0 P := by
    intro r
    induction r with
    | zero =>
      intro p G hp hf hd
      exact bJ7_fill_53178_5 (N := 9) hn ⟨⟨by omega, by omega⟩, by decide, fun _ => h G hf fun p' hp' => hd p' (by omega), fun q => by omega⟩
    | succ r ih =>
      intro p G hp hf hd
      refine bJ7_fill_53178_5 (N := 9) hn ⟨⟨by omega, by omega⟩, by decide, fun q => by omega, fun _ => ⟨ar, ⟨by omega, by omega⟩, by decide, ?_⟩⟩
      rw [show (p : Int) + 1 = ((p + 1 : Nat) : Int) by omega]
      refine ih (p + 1) _ (by omega) (fun i q hi => by rw [up2_i hi]; exact hf i q hi) fun p' hp' => ?_
      rw [show ((p : Int)).toNat = p from rfl, up2_k]
      by_cases c : p' = p
      · rw [if_pos c]
      · rw [if_neg c]; exact hd p' (by omega)
  exact wJ7_fill_53178 (N := 9) hn ⟨ar, key 9 0 g (by omega) (fun _ _ _ => rfl) fun p' hp' => by omega⟩
theorem cs_listSets (hn : 100 ≤ n) (hN : N ≤ 10) (hm : m ≤ 8) (hv : ∀ i, i < N → 1 ≤ v i ∧ v i ≤ 1000000) (hP : PK N m v w g)
    (h : ∀ G : Hp, lwL g G → (∀ T, T < 2 ^ N → ino N v T → G 34 T = if T = 0 then 1 else 0) → (∀ T, T < 2 ^ N → G 22 T = dg N T) → (∀ p, p ≤ m → LsA G p (Ls N v w p (2 ^ N))) → G 35 0 = 0 → P none n (W0 dy) G) : Runs miX3_listSets (d + 1) [.ref 18] n (W0 dy) g P := by
  have hp2 := p2_le hN
  have hv1 : ∀ i, i < N → 1 ≤ v i := fun i hi => (hv i hi).1
  have hvb : ∀ i, i < N → 0 ≤ v i ∧ v i ≤ 1000000 := fun i hi => by have := hv i hi; omega
  have smb' : ∀ T, 0 ≤ sm N v T ∧ sm N v T ≤ 10000000 := fun T => smb (v := v) hvb hN (Nat.le_refl N) T
  -- the rest of the sets whose last number is i
  have inner : ∀ (i A : Nat), i < N → A < 1024 → (∀ r : Nat, ino N v r → (r &&& A = A ↔ ∀ j, j < i → v j = v i → r.testBit j = true)) →
      (∀ G : Hp, LSt N m v w g (2 ^ (i + 1)) G → V miX3_listSets (d + 1) 29 [(0, .ref 18), (1, I_ ((i : Int) + 1))] [] n (W0 dy) G 0 0 P) →
      ∀ (f r : Nat) (G : Hp), r + f = 2 ^ i → LSt N m v w g (2 ^ i + r) G → V miX3_listSets (d + 1) 50 [(0, .ref 18), (1, I_ (i : Int)), (2, I_ ((2 ^ i : Nat) : Int)), (3, I_ (A : Int)), (4, I_ (r : Int))] [] n (W0 dy) G 0 0 P := by
    intro i A hi hA hAl hgo f
    have hpi : 2 ^ i * 2 ≤ 2 ^ N := by rw [← Nat.pow_succ]; exact Nat.pow_le_pow_right (by omega) (by omega)
    induction f with
    | zero =>
      intro r G hr hL
      refine bX3_listSets_50 hn ⟨⟨by omega, by omega⟩, ⟨by omega, by omega⟩, fun _ => hgo G ?_, fun q => by omega⟩
      rw [Nat.pow_succ, show 2 ^ i * 2 = 2 ^ i + r by omega]; exact hL
    | succ f ih =>
      intro r G hr hL
      obtain ⟨L1, L2, L3⟩ := hL
      have hPG := hP.mv L1
      have hrl : r < 2 ^ i := by omega
      obtain ⟨R1, R2, R3⟩ := L2 r (by omega)
      have eor : or3 (r : Int) ((2 ^ i : Nat) : Int) = ((2 ^ i + r : Nat) : Int) := by rw [or3_n (by omega) (by omega), or_add hrl]
      have hdg := dg_add (N := N) hi hrl
      have hdb := dg_b hN (2 ^ i + r)
      have e8 : shl3 1 (3 * ((G 18 1 - 1) - (i : Int))) = (8 : Int) ^ (N - 1 - i) := by
        rw [hPG.1, show (N : Int) - 1 - (i : Int) = ((N - 1 - i : Nat) : Int) by omega]
        exact shl8 (by omega)
      have e1 : (r : Int) + 1 = ((r + 1 : Nat) : Int) := by omega
      have oth : ∀ (G' : Hp), (∀ j q, (j = 21 ∨ j = 22 ∨ j = 34) → q ≠ 2 ^ i + r → G' j q = G j q) → ∀ T, T < 2 ^ i + r → (ino N v T → G' 21 T = sm N v T ∧ G' 34 T = 0) ∧ (¬ ino N v T → G' 21 T = -1) ∧ G' 22 T = dg N T := fun G' hG' T hT => by
        rw [hG' 21 T (by omega) (by omega), hG' 22 T (by omega) (by omega), hG' 34 T (by omega) (by omega)]
        exact L2 T hT
      have nope : ¬ ino N v (2 ^ i + r) → ∀ y : Int, y = dg N (2 ^ i + r) → V miX3_listSets (d + 1) 156 [(0, .ref 18), (1, I_ (i : Int)), (2, I_ ((2 ^ i : Nat) : Int)), (3, I_ (A : Int)), (4, I_ (r : Int)), (5, I_ 0)] [] n (W0 dy) (up2 (up2 G 21 (2 ^ i + r) (-1)) 22 (2 ^ i + r) y) 0 0 P := fun z y ey => by
        refine bX3_listSets_156 hn ?_
        rw [e1]
        refine ih (r + 1) _ (by omega) ⟨(L1.up (by decide)).up (by decide), fun T hT => ?_, fun p hp => ?_⟩
        · by_cases c : T = 2 ^ i + r
          · subst c
            exact ⟨fun q => absurd q z, fun _ => by rw [up2_i (by decide), up2_k, if_pos rfl], by rw [up2_k, if_pos rfl]; exact ey⟩
          · refine oth _ (fun j q hj hq => ?_) T (by omega)
            rw [show up2 (up2 G 21 (2 ^ i + r) (-1)) 22 (2 ^ i + r) y j q = up2 G 21 (2 ^ i + r) (-1) j q from if_neg (fun t => hq t.2), show up2 G 21 (2 ^ i + r) (-1) j q = G j q from if_neg (fun t => hq t.2)]
        · rw [show 2 ^ i + (r + 1) = (2 ^ i + r) + 1 by omega, Ls_f (fun q => z q.1)]
          obtain ⟨a1, a2⟩ := L3 p hp
          exact ⟨by rw [up2_i (by decide), up2_i (by decide)]; exact a1, fun x U hU => by rw [up2_i (by omega), up2_i (by omega)]; exact a2 x U hU⟩
      refine bX3_listSets_50 hn ⟨⟨by omega, by omega⟩, ⟨by omega, by omega⟩, fun q => by omega, fun _ => ⟨⟨by omega, by omega⟩, ?_⟩⟩
      rw [eor, e8]
      simp only [Int.toNat_natCast, R3]
      have eT : ((2 ^ i + r : Nat) : Int).toNat = 2 ^ i + r := rfl
      refine ⟨fun q => ⟨⟨by omega, by omega⟩, fun y ey => ⟨⟨by omega, by omega⟩, nope (fun z => ?_) y (by omega)⟩⟩, fun q => ⟨⟨by omega, by omega⟩, fun q2 => ⟨⟨by omega, by omega⟩, fun y ey => ⟨⟨by omega, by omega⟩, nope (fun z => ?_) y (by omega)⟩⟩, fun q2 => ⟨⟨by omega, by omega⟩, fun y ey => ⟨⟨by omega, by omega⟩, ?_, fun y' ey' => ⟨⟨by omega, by omega⟩, ?_⟩⟩⟩⟩⟩
      · have := ((ino_add (v := v) hi hrl).mp z).1
        have := (R1 this).1
        have := smb' r
        omega
      · obtain ⟨z1, z2⟩ := (ino_add (v := v) hi hrl).mp z
        rw [and3_n (by omega)] at q2
        exact q2 (by rw [(hAl r z1).mpr z2])
      · have hir : ino N v r := by
          rcases Classical.em (ino N v r) with z | z
          · exact z
          · exact absurd (R2 z) q
        have e21 := (R1 hir).1
        have := smb' r
        have := hv i hi
        have e19 := hPG.2.2.1 i hi
        rw [e21, e19] at ey
        exact ⟨by omega, by omega⟩
      · have hir : ino N v r := by
          rcases Classical.em (ino N v r) with z | z
          · exact z
          · exact absurd (R2 z) q
        have e21 := (R1 hir).1
        have e19 := hPG.2.2.1 i hi
        rw [e21, e19] at ey
        rw [and3_n (by omega)] at q2
        have hiT : ino N v (2 ^ i + r) := (ino_add (v := v) hi hrl).mpr ⟨hir, (hAl r hir).mp (by omega)⟩
        have hsT := sm_add (v := v) hi hrl
        have lw2 : lwL G (up2 (up2 G 21 (2 ^ i + r) y) 22 (2 ^ i + r) y') := ((lwL.refl G).up (by decide)).up (by decide)
        refine cs_list (N := N) (m := m) (v := v) (w := w) hn hN hm (by omega) hv1 (hPG.mv lw2) hiT ?_ (fun p hp => ?_) fun G' F1 F2 F3 => ?_
        · rw [up2_i (by decide), up2_k, if_pos rfl, ey, hsT]
        · obtain ⟨a1, a2⟩ := L3 p hp
          exact ⟨by rw [up2_i (by decide), up2_i (by decide)]; exact a1, fun x U hU => by rw [up2_i (by omega), up2_i (by omega)]; exact a2 x U hU⟩
        · refine bX3_listSets_156 hn ?_
          rw [e1]
          refine ih (r + 1) G' (by omega) ⟨fun j q hj => ?_, fun T hT => ?_, F3⟩
          · rw [F1 j q (by omega) (by omega), lw2 j q hj]; exact L1 j q hj
          · by_cases c : T = 2 ^ i + r
            · subst c
              refine ⟨fun _ => ⟨?_, F2⟩, fun z => absurd hiT z, ?_⟩
              · rw [F1 21 _ (by decide) (by omega), up2_i (by decide), up2_k, if_pos rfl, ey, hsT]
              · rw [F1 22 _ (by decide) (by omega), up2_k, if_pos rfl, ey', hdg]
            · refine oth _ (fun j q hj hq => ?_) T (by omega)
              rw [F1 j q (by omega) (by omega), show up2 (up2 G 21 (2 ^ i + r) y) 22 (2 ^ i + r) y' j q = up2 G 21 (2 ^ i + r) y j q from if_neg (fun t => hq t.2), show up2 G 21 (2 ^ i + r) y j q = G j q from if_neg (fun t => hq t.2)]
  have outer : ∀ (f i : Nat) (G : Hp), i + f = N → LSt N m v w g (2 ^ i) G → V miX3_listSets (d + 1) 29 [(0, .ref 18), (1, I_ (i : Int))] [] n (W0 dy) G 0 0 P := by
    intro f
    induction f with
    | zero =>
      intro i G hi hL
      obtain ⟨L1, L2, L3⟩ := hL
      have hPG := hP.mv L1
      have ei : i = N := by omega
      subst ei
      refine bX3_listSets_29 hn ⟨⟨by omega, by omega⟩, fun _ => h _ ((L1.up (by decide)).up (by decide)) (fun T hT hio => ?_) (fun T hT => ?_) (fun p hp => ?_) ?_, fun q => by rw [hPG.1] at q; omega⟩
      · rw [up2_i (by decide), up2_k]
        by_cases c : T = 0
        · rw [if_pos c, if_pos c]
        · rw [if_neg c, if_neg c]; exact ((L2 T hT).1 hio).2
      · rw [up2_i (by decide), up2_i (by decide)]; exact (L2 T hT).2.2
      · obtain ⟨a1, a2⟩ := L3 p hp
        exact ⟨by rw [up2_i (by decide), up2_i (by decide)]; exact a1, fun x U hU => by rw [up2_i (by omega), up2_i (by omega)]; exact a2 x U hU⟩
      · rw [up2_k, if_pos rfl]
    | succ f ih =>
      intro i G hi hL
      have hPG := hP.mv hL.1
      refine bX3_listSets_29 hn ⟨⟨by omega, by omega⟩, fun q => by rw [hPG.1] at q; omega, fun _ => ?_⟩
      rw [shl_N (j := i) (by omega)]
      refine cs_likeAhead hn hN (by omega : i < N) hPG fun A hA hAl => ?_
      refine bX3_listSets_46 hn (inner i A (by omega) hA hAl (fun G' hG' => ?_) (2 ^ i) 0 G (by omega) hL)
      rw [show (i : Int) + 1 = ((i + 1 : Nat) : Int) by omega]
      exact ih (i + 1) G' (by omega) hG'
  refine wX3_listSets hn (sp_zero9 hn fun G0 hG0 h33 => ?_)
  have l0 : lwL g G0 := fun i q hi => hG0 i q (by omega)
  have lw2 : lwL G0 (up2 (up2 G0 21 0 0) 22 0 0) := ((lwL.refl G0).up (by decide)).up (by decide)
  refine bX3_listSets_8 hn ?_
  have Ls0 : ∀ p, Ls N v w p 0 = [] := fun _ => rfl
  refine cs_list (T := 0) (N := N) (m := m) (v := v) (w := w) hn hN hm (p2_pos N) hv1 ((hP.mv l0).mv lw2) ino_0 ?_ (fun p hp => ?_) fun G' F1 F2 F3 => ?_
  · rw [up2_i (by decide), up2_k, if_pos rfl, sm_0]
  · rw [Ls0]
    refine ⟨?_, fun x U hU => ?_⟩
    · rw [up2_i (by decide), up2_i (by decide), h33 p (by omega)]; rfl
    · rw [List.getElem?_nil] at hU; cases hU
  · refine bX3_listSets_27 hn (outer N 0 G' (by omega) ⟨fun j q hj => ?_, fun T hT => ?_, F3⟩)
    · rw [F1 j q (by omega) (by omega), lw2 j q hj]; exact l0 j q hj
    · have : T = 0 := by have : T < 1 := hT; omega
      subst this
      refine ⟨fun _ => ⟨?_, F2⟩, fun z => absurd ino_0 z, ?_⟩
      · rw [F1 21 0 (by decide) (by decide), up2_i (by decide), up2_k, if_pos rfl, sm_0]
      · rw [F1 22 0 (by decide) (by decide), up2_k, if_pos rfl, dg_0]
end Lists2
