/-! THE CLASS'S CHAINS OF SETS: the loops -/
section GoOn
variable {d n : Nat} {dy : Nat → Shp} {g : Hp} {P : Pst} {N m : Nat} {v w : Nat → Int}
/-- U has what the sets of l bring -/
def QU (N : Nat) (v w : Nat → Int) (p : Nat) (x : Nat → Int) (l : List Nat) (G : Hp) (U : Nat) : Prop := G 34 U = acS N v w p l U ∧ FpU N v w p x l U (G 35 U)
theorem cs_goOnFrom {p : Nat} (hn : 100 ≤ n) (hN : N ≤ 10) (hm : m ≤ 8) (hp : p < m) (hv : ∀ i, i < N → 1 ≤ v i) (hw : ∀ e, e < m → 1 ≤ w e) (hP : PK N m v w g) (hL : ∀ p', p' ≤ m → LsA g p' (Ls N v w p' (2 ^ N))) (h22 : ∀ T, T < 2 ^ N → g 22 T = dg N T)
    (h34 : ∀ T, T ∈ Ls N v w p (2 ^ N) → g 34 T = Cc N v w p T ∧ (0 < Cc N v w p T → Fl N v w p T (g 35 T))) (h34' : ∀ U, U ∈ Ls N v w (p + 1) (2 ^ N) → g 34 U = 0)
    (h : ∀ G : Hp, (∀ i q, i ≠ 34 → i ≠ 35 → G i q = g i q) → (∀ T, ¬ T ∈ Ls N v w (p + 1) (2 ^ N) → G 34 T = g 34 T ∧ G 35 T = g 35 T) → (∀ U, U ∈ Ls N v w (p + 1) (2 ^ N) → G 34 U = Cc N v w (p + 1) U ∧ (0 < Cc N v w (p + 1) U → Fl N v w (p + 1) U (G 35 U))) → P none n (W0 dy) G) : Runs miX3_goOnFrom (d + 1) [.ref 18, I_ (p : Int)] n (W0 dy) g P := by
  have hp2 := p2_le hN
  obtain ⟨lp1, lp2⟩ := hL p (by omega)
  obtain ⟨lq1, lq2⟩ := hL (p + 1) (by omega)
  have nin : ∀ T, T ∈ Ls N v w p (2 ^ N) → ¬ T ∈ Ls N v w (p + 1) (2 ^ N) := fun T h1 h2 => by
    have := bf_inj (m := m) hw (by omega) (by omega) h1 h2
    omega
  have hndq := Ls_nd (N := N) (v := v) (w := w) (p := p + 1) (2 ^ N)
  have hx : ∀ T, T ∈ Ls N v w p (2 ^ N) → 0 < Cc N v w p T → Fl N v w p T (g 35 T) := fun T h1 h2 => (h34 T h1).2 h2
  have hlq : (Ls N v w (p + 1) (2 ^ N)).length ≤ 1024 := by
    have := nd_le hndq (n := 2 ^ N) fun y hy => ((Ls_in _).mp hy).1
    omega
  have hlp : (Ls N v w p (2 ^ N)).length ≤ 1024 := by
    have := nd_le (Ls_nd (N := N) (v := v) (w := w) (p := p) (2 ^ N)) (n := 2 ^ N) fun y hy => ((Ls_in _).mp hy).1
    omega
  -- the bounds of the arrays
  have l252p := Ls_len (N := N) (v := v) (w := w) (p := p) (c := 2 ^ N) hN (Nat.le_refl _) hv
  have l252q := Ls_len (N := N) (v := v) (w := w) (p := p + 1) (c := 2 ^ N) hN (Nat.le_refl _) hv
  have hfull : ∀ (l k : List Nat) (U : Nat), U ∈ Ls N v w (p + 1) (2 ^ N) → Ls N v w p (2 ^ N) = l ++ k → 0 ≤ acS N v w p l U ∧ acS N v w p l U ≤ 1073741824 := fun l k U hU e => by
    have h1 := acS_full hU
    rw [e, acS_app] at h1
    have h2 := acS_nn (N := N) (v := v) (w := w) (p := p) (U := U) l
    have h3 := acS_nn (N := N) (v := v) (w := w) (p := p) (U := U) k
    have h4 := Cc_b (N := N) (v := v) (w := w) (p := p + 1) (T := U) hN (by omega) ((Ls_in _).mp hU).1
    omega
  generalize hlpe : Ls N v w p (2 ^ N) = lp at *
  generalize hlqe : Ls N v w (p + 1) (2 ^ N) = lq at *
  have memp : ∀ T, T ∈ lp → T < 2 ^ N := fun T hT => by rw [← hlpe] at hT; exact ((Ls_in _).mp hT).1
  have memq : ∀ T, T ∈ lq → T < 2 ^ N := fun T hT => by rw [← hlqe] at hT; exact ((Ls_in _).mp hT).1
  have inner : ∀ (i T : Nat), lp[i]? = some T → 0 < Cc N v w p T →
      (∀ G : Hp, (∀ a q, a ≠ 34 → a ≠ 35 → G a q = g a q) → (∀ S, ¬ S ∈ lq → G 34 S = g 34 S ∧ G 35 S = g 35 S) → (∀ U, U ∈ lq → QU N v w p (g 35) (lp.take i ++ [T]) G U) → V miX3_goOnFrom (d + 1) 2 [(0, .ref 18), (1, I_ (p : Int)), (2, I_ ((i : Int) + 1))] [] n (W0 dy) G 0 0 P) →
      ∀ (f j : Nat) (G : Hp), j + f = lq.length → (∀ a q, a ≠ 34 → a ≠ 35 → G a q = g a q) → (∀ S, ¬ S ∈ lq → G 34 S = g 34 S ∧ G 35 S = g 35 S) → (∀ j' U, lq[j']? = some U → (j' < j → QU N v w p (g 35) (lp.take i ++ [T]) G U) ∧ (j ≤ j' → QU N v w p (g 35) (lp.take i) G U)) → V miX3_goOnFrom (d + 1) 24 [(0, .ref 18), (1, I_ (p : Int)), (2, I_ (i : Int)), (3, I_ (T : Int)), (4, I_ (j : Int))] [] n (W0 dy) G 0 0 P := by
    intro i T hiT hcT hgo f
    have hTm := List.mem_of_getElem? hiT
    have hTl := memp T hTm
    have hTn := nin T hTm
    have hT34 := h34 T hTm
    have hcb := Cc_b (N := N) (v := v) (w := w) (p := p) (T := T) hN (by omega) hTl
    have hil : i < lp.length := (List.getElem?_eq_some_iff.mp hiT).1
    have htk : lp = (lp.take i ++ [T]) ++ lp.drop (i + 1) := by
      have e1 := List.take_append_drop i lp
      have e2 : lp.drop i = T :: lp.drop (i + 1) := by
        rw [List.drop_eq_getElem_cons hil]
        congr 1
        have := List.getElem?_eq_getElem hil
        rw [hiT] at this
        exact (Option.some.inj this).symm
      rw [e2] at e1
      rw [List.append_assoc]
      exact e1.symm
    induction f with
    | zero =>
      intro j G hj hf ho hq
      have e34 : G 34 T = Cc N v w p T := (ho T hTn).1.trans hT34.1
      have e33' : G 33 (p + 1) = (lq.length : Int) := (hf 33 _ (by decide) (by decide)).trans lq1
      refine bX3_goOnFrom_24 hn ⟨⟨by omega, by omega⟩, fun q => ?_, fun _ => ⟨⟨by omega, by omega⟩, ⟨by omega, by omega⟩, fun _ => hgo G hf ho fun U hU => ?_, fun q => ?_⟩⟩
      · have q' : G 34 T ≤ 0 := q
        omega
      · obtain ⟨j', hj'⟩ := List.mem_iff_getElem?.mp hU
        have := (List.getElem?_eq_some_iff.mp hj').1
        exact (hq j' U hj').1 (by omega)
      · rw [show ((p : Int) + 1).toNat = p + 1 by omega, e33'] at q
        omega
    | succ f ih =>
      intro j G hj hf ho hq
      have e34 : G 34 T = Cc N v w p T := (ho T hTn).1.trans hT34.1
      have e35 : G 35 T = g 35 T := (ho T hTn).2
      have e33' : G 33 (p + 1) = (lq.length : Int) := (hf 33 _ (by decide) (by decide)).trans lq1
      have hjl : j < lq.length := by omega
      have hjU := List.getElem?_eq_getElem hjl
      generalize lq[j] = U at hjU
      have hUm := List.mem_of_getElem? hjU
      have hUl := memq U hUm
      have e23 : G 23 (p + 1) = ((24 + (p + 1) : Nat) : Int) := (hf 23 _ (by decide) (by decide)).trans (hP.2.2.2.2 (p + 1) (by omega))
      have eU : G (24 + (p + 1)) j = (U : Int) := (hf _ _ (by omega) (by omega)).trans (lq2 j U hjU)
      have e22 : ∀ S, S < 2 ^ N → G 22 S = dg N S := fun S hS => (hf 22 S (by decide) (by decide)).trans (h22 S hS)
      obtain ⟨Q1, Q2⟩ := (hq j U hjU).2 (Nat.le_refl j)
      have hjj : ∀ j' U', lq[j']? = some U' → U' = U → j' = j := fun j' U' h1 h2 => by
        rw [h2] at h1
        exact (List.getElem?_inj (List.getElem?_eq_some_iff.mp h1).1 hndq).mp (h1.trans hjU.symm)
      -- the next one, when only U has changed
      have nx : ∀ G' : Hp, (∀ a q, a ≠ 34 → a ≠ 35 → G' a q = G a q) → (∀ S, S ≠ U → G' 34 S = G 34 S ∧ G' 35 S = G 35 S) → QU N v w p (g 35) (lp.take i ++ [T]) G' U → V miX3_goOnFrom (d + 1) 97 [(0, .ref 18), (1, I_ (p : Int)), (2, I_ (i : Int)), (3, I_ (T : Int)), (4, I_ (j : Int)), (5, I_ (U : Int))] [] n (W0 dy) G' 0 0 P := fun G' k1 k2 k3 => by
        refine bX3_goOnFrom_97 hn ?_
        rw [show (j : Int) + 1 = ((j + 1 : Nat) : Int) by omega]
        refine ih (j + 1) G' (by omega) (fun a q a1 a2 => (k1 a q a1 a2).trans (hf a q a1 a2)) (fun S hS => ?_) fun j' U' hU' => ?_
        · have hne : S ≠ U := fun z => hS (z ▸ hUm)
          rw [(k2 S hne).1, (k2 S hne).2]; exact ho S hS
        · by_cases c : U' = U
          · have ej := hjj j' U' hU' c
            subst c
            exact ⟨fun _ => k3, fun z => by omega⟩
          · obtain ⟨b1, b2⟩ := hq j' U' hU'
            have hne : j' ≠ j := fun z => by
              rw [z, hjU] at hU'
              exact c (Option.some.inj hU').symm
            have keep : ∀ l, QU N v w p (g 35) l G U' → QU N v w p (g 35) l G' U' := fun l z => by
              unfold QU
              rw [(k2 U' c).1, (k2 U' c).2]; exact z
            exact ⟨fun z => keep _ (b1 (by omega)), fun z => keep _ (b2 (by omega))⟩
      refine bX3_goOnFrom_24 hn ⟨⟨by omega, by omega⟩, fun q => ?_, fun _ => ⟨⟨by omega, by omega⟩, ⟨by omega, by omega⟩, fun q => ?_, fun _ => ?_⟩⟩
      · have q' : G 34 T ≤ 0 := q
        omega
      · rw [show ((p : Int) + 1).toNat = p + 1 by omega, e33'] at q
        omega
      rw [show ((p : Int) + 1).toNat = p + 1 by omega, e23]
      refine ⟨ar24 hn (by omega), ⟨by omega, by omega⟩, fun y ey => ?_⟩
      have ey' : y = (U : Int) := by rw [ey]; exact eU
      subst ey'
      rw [and3_n (by omega)]
      have hb1 := hfull (lp.take i) ([T] ++ lp.drop (i + 1)) U hUm (by rw [← List.append_assoc]; exact htk)
      have hb2 := hfull (lp.take i ++ [T]) (lp.drop (i + 1)) U hUm htk
      refine ⟨fun q => ?_, fun q => ⟨⟨by omega, by omega⟩, ?_⟩⟩
      · have ns : ¬ (sb T U ∧ 0 < Cc N v w p T) := fun z => q (by rw [sb_and.mpr z.1])
        obtain ⟨s1, s2⟩ := FpU_skip Q2 ns
        exact nx G (fun _ _ _ _ => rfl) (fun _ _ => ⟨rfl, rfl⟩) ⟨by rw [s1]; exact Q1, s2⟩
      · have hs : sb T U := sb_and.mp (by omega)
        have erow : G 35 ((T : Nat) : Int).toNat + (p : Int) * (G 22 ((U : Nat) : Int).toNat - G 22 ((T : Nat) : Int).toNat) = rwU N p (g 35) T U := by
          show G 35 T + (p : Int) * (G 22 U - G 22 T) = _
          rw [e35, e22 U hUl, e22 T hTl]; rfl
        rw [erow]
        have hrb := rw_b (N := N) (v := v) (w := w) (x := g 35) hN (by omega : p + 1 ≤ 8) (by rw [hlqe]; exact hUm) (by rw [hlpe]; exact hTm) hs (hx T hTm hcT)
        have eac : acS N v w p (lp.take i ++ [T]) U = acS N v w p (lp.take i) U + Cc N v w p T := by rw [acS_app, acS_one, iv_t hs]
        refine wX3_extend hn ⟨⟨by omega, by omega⟩, ?_⟩
        show (G 34 U = 0 → _ ∧ _ ∧ ∀ y : Int, y = G 34 U + G 34 T → _ ∧ V miX3_goOnFrom (d + 1) 97 _ _ n (W0 dy) (up2 (up2 G 35 U _) 34 U y) 0 0 P) ∧ (G 34 U ≠ 0 → _ ∧ (G 35 U ≤ _ → _ ∧ ∀ y : Int, y = G 34 U + G 34 T → _ ∧ V miX3_goOnFrom (d + 1) 97 _ _ n (W0 dy) (up2 G 34 U y) 0 0 P) ∧ (_ < G 35 U → _ ∧ ∀ y : Int, y = G 34 U + G 34 T → _ ∧ V miX3_goOnFrom (d + 1) 97 _ _ n (W0 dy) (up2 (up2 G 35 U _) 34 U y) 0 0 P))
        rw [Q1, e34]
        have setb : ∀ y : Int, y = acS N v w p (lp.take i) U + Cc N v w p T → (acS N v w p (lp.take i) U ≠ 0 → rwU N p (g 35) T U < G 35 U) → V miX3_goOnFrom (d + 1) 97 [(0, .ref 18), (1, I_ (p : Int)), (2, I_ (i : Int)), (3, I_ (T : Int)), (4, I_ (j : Int)), (5, I_ (U : Int))] [] n (W0 dy) (up2 (up2 G 35 U (rwU N p (g 35) T U)) 34 U y) 0 0 P := fun y ey hcond => by
          refine nx _ (fun a q a1 a2 => by rw [up2_i a1, up2_i a2]) (fun S hS => ⟨by rw [up2_k, if_neg hS, up2_i (by decide)], by rw [up2_i (by decide), up2_k, if_neg hS]⟩) ⟨?_, ?_⟩
          · rw [up2_k, if_pos rfl, ey, eac]
          · rw [up2_i (by decide), up2_k, if_pos rfl]
            refine FpU_add Q2 hs hcT (fun _ => rfl) fun z => ⟨fun z2 => ?_, fun _ => rfl⟩
            have := hcond z
            omega
        refine ⟨fun z => ⟨⟨by omega, by omega⟩, ⟨by omega, by omega⟩, fun y ey => ⟨⟨by omega, by omega⟩, setb y ey fun z2 => absurd z z2⟩⟩, fun z => ⟨⟨by omega, by omega⟩, fun z2 => ⟨⟨by omega, by omega⟩, fun y ey => ⟨⟨by omega, by omega⟩, ?_⟩⟩, fun z2 => ⟨⟨by omega, by omega⟩, fun y ey => ⟨⟨by omega, by omega⟩, setb y ey fun _ => z2⟩⟩⟩⟩
        refine nx _ (fun a q a1 a2 => by rw [up2_i a1]) (fun S hS => ⟨by rw [up2_k, if_neg hS], by rw [up2_i (by decide)]⟩) ⟨?_, ?_⟩
        · rw [up2_k, if_pos rfl, ey, eac]
        · rw [up2_i (by decide)]
          exact FpU_add Q2 hs hcT (fun q => absurd q z) fun _ => ⟨fun _ => rfl, fun z3 => by omega⟩
  have outer : ∀ (f i : Nat) (G : Hp), i + f = lp.length → (∀ a q, a ≠ 34 → a ≠ 35 → G a q = g a q) → (∀ S, ¬ S ∈ lq → G 34 S = g 34 S ∧ G 35 S = g 35 S) → (∀ U, U ∈ lq → QU N v w p (g 35) (lp.take i) G U) → V miX3_goOnFrom (d + 1) 2 [(0, .ref 18), (1, I_ (p : Int)), (2, I_ (i : Int))] [] n (W0 dy) G 0 0 P := by
    intro f
    induction f with
    | zero =>
      intro i G hi hf ho hq
      have e33' : G 33 p = (lp.length : Int) := (hf 33 _ (by decide) (by decide)).trans lp1
      have htl : lp.take i = lp := List.take_of_length_le (by omega)
      refine bX3_goOnFrom_2 hn ⟨⟨by omega, by omega⟩, ⟨by omega, by omega⟩, fun _ => h G hf ho fun U hU => ?_, fun q => ?_⟩
      · obtain ⟨Q1, Q2⟩ := hq U hU
        rw [htl] at Q1 Q2
        have hUq : U ∈ Ls N v w (p + 1) (2 ^ N) := by rw [hlqe]; exact hU
        have eac := acS_full hUq
        rw [hlpe] at eac
        refine ⟨by rw [Q1]; exact eac, fun hc => Fl_next hUq (x := g 35) (fun T hT => ?_) hc (by rw [hlpe]; exact Q2)⟩
        rw [hlpe] at hT
        exact hx T hT
      · have q' : (i : Int) < G 33 p := q
        omega
    | succ f ih =>
      intro i G hi hf ho hq
      have e33' : G 33 p = (lp.length : Int) := (hf 33 _ (by decide) (by decide)).trans lp1
      have hil : i < lp.length := by omega
      have hiT := List.getElem?_eq_getElem hil
      have htk1 : lp.take (i + 1) = lp.take i ++ [lp[i]] := (List.take_append_getElem hil).symm
      generalize lp[i] = T at hiT htk1
      have hTm := List.mem_of_getElem? hiT
      have hTl := memp T hTm
      have hTn := nin T hTm
      have hT34 := h34 T hTm
      have e23 : G 23 p = ((24 + p : Nat) : Int) := (hf 23 _ (by decide) (by decide)).trans (hP.2.2.2.2 p (by omega))
      have eT : G (24 + p) i = (T : Int) := (hf _ _ (by omega) (by omega)).trans (lp2 i T hiT)
      have e34 : G 34 T = Cc N v w p T := (ho T hTn).1.trans hT34.1
      refine bX3_goOnFrom_2 hn ⟨⟨by omega, by omega⟩, ⟨by omega, by omega⟩, fun q => ?_, fun _ => ?_⟩
      · have q' : G 33 p ≤ (i : Int) := q
        omega
      simp only [Int.toNat_natCast, e23]
      refine ⟨ar24 hn (by omega), ⟨by omega, by omega⟩, fun y ey => ?_⟩
      rw [eT] at ey
      subst ey
      have ei1 : (i : Int) + 1 = ((i + 1 : Nat) : Int) := by omega
      by_cases hc : 0 < Cc N v w p T
      · refine inner i T hiT hc (fun G' k1 k2 k3 => ?_) lq.length 0 G (by omega) hf ho fun j' U hU => ⟨fun z => by omega, fun _ => hq U (List.mem_of_getElem? hU)⟩
        rw [ei1]
        exact ih (i + 1) G' (by omega) k1 k2 (by rw [htk1]; exact k3)
      · have hcn := Cc_nn (N := N) (v := v) (w := w) p T
        refine bX3_goOnFrom_24 hn ⟨⟨by omega, by omega⟩, fun _ => ?_, fun q => ?_⟩
        · rw [ei1]
          refine ih (i + 1) G (by omega) hf ho fun U hU => ?_
          rw [htk1]
          obtain ⟨Q1, Q2⟩ := hq U hU
          obtain ⟨s1, s2⟩ := FpU_skip (T := T) Q2 (fun z => hc z.2)
          exact ⟨by rw [s1]; exact Q1, s2⟩
        · have q' : 0 < G 34 T := q
          omega
  refine wX3_goOnFrom hn (outer lp.length 0 g (by omega) (fun _ _ _ _ => rfl) (fun _ _ => ⟨rfl, rfl⟩) fun U hU => ⟨?_, fun z => ?_⟩)
  · exact h34' U hU
  · exact absurd z (Int.lt_irrefl 0)
end GoOn
