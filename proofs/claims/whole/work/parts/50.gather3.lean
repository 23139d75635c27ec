/-! GATHERING: all members -/
section Gather3
variable {d n : Nat} {dy : Nat → Shp} {g a : Hp} {P : Pst}
theorem CL.app {i x : Nat} {l : List Nat} (h : CL a i l) (hi : i ≤ l.length) : CL a i (l ++ [x]) := fun m j hm hj => by
  rw [List.getElem?_append_left (by omega)] at hj
  obtain ⟨h1, h2⟩ := h m j hm hj
  exact ⟨fun z => List.mem_append_left _ (h1 z), fun z => List.mem_append_left _ (h2 z)⟩
theorem CL.succ {i j : Nat} {l : List Nat} (h : CL a i l) (hj : l[i]? = some j) (h6 : 0 ≤ a 66 j → (a 66 j).toNat ∈ l) (h7 : 0 ≤ a 67 j → (a 67 j).toNat ∈ l) : CL a (i + 1) l := fun m y hm hy => by
  by_cases c : m < i
  · exact h m y c hy
  · have e : m = i := by omega
    rw [e, hj] at hy
    have e2 : j = y := by simpa using hy
    rw [← e2]
    exact ⟨h6, h7⟩
/-- all that hangs on k0 is there -/
theorem CL.full {k0 : Nat} {l : List Nat} {G : Hp} (hG : GS g a G k0 l) (hI : Inv a) (hB : BQ a k0 l.length l) (hL : CL a l.length l) : ∀ y : Nat, (y : Int) < a 53 5 → abv (a 60) k0 60 y = true → y ∈ l := by
  obtain ⟨dp, hD⟩ := hI.dp
  have hN := hI.1.2
  have key : ∀ (f y : Nat), dp y = f → (y : Int) < a 53 5 → abv (a 60) k0 60 y = true → y ∈ l := by
    intro f
    induction f with
    | zero =>
      intro y hf hy hab
      by_cases e : y = k0
      · rw [e]; exact List.mem_of_getElem? hB.1
      · have := (abv_dp hD hN 0 y hf hy hab e).1; omega
    | succ f ih =>
      intro y hf hy hab
      by_cases e : y = k0
      · rw [e]; exact List.mem_of_getElem? hB.1
      · obtain ⟨b1, b2, b3⟩ := abv_dp hD hN (f + 1) y hf hy hab e
        have hd := (hD y hy).2.2.2 b2
        have hb := (hD y hy).1
        have hp := ih (a 60 y).toNat (by omega) (by omega) b3
        obtain ⟨m, hm⟩ := List.getElem?_of_mem hp
        obtain ⟨h1, h2⟩ := hL m _ (List.getElem?_eq_some_iff.mp hm).1 hm
        rcases ((hI.2.2.1 y hy).1.2.2.1 b2).2.2 with ⟨c1, c2⟩ | ⟨c1, c2⟩
        · have := h1 (by omega)
          rw [c2] at this; exact this
        · have := h2 (by omega)
          rw [c2] at this; exact this
  exact fun y hy hab => key _ y rfl hy hab
set_option maxHeartbeats 2000000 in
theorem gather_bfs {k0 : Nat} (hC : Ca n dy g a) (hI : Inv a) (h : ∀ (G : Hp) (l : List Nat), GS g a G k0 l → BQ a k0 l.length l → CL a l.length l → V miX1_gather (d + 2) 103 [(0, .ref 4), (1, .ref (g 3 k0).toNat), (2, I_ (G 4 1 - 1))] [] n (W0 dy) G 0 0 P) : ∀ (f i : Nat) (G : Hp) (l : List Nat), i + f = 60 → i ≤ l.length → GS g a G k0 l → BQ a k0 i l → CL a i l → V miX1_gather (d + 2) 19 [(0, .ref 4), (1, .ref (g 3 k0).toNat), (2, I_ (i : Int))] [] n (W0 dy) G 0 0 P := by
  have hn := hC.1
  obtain ⟨dp, hD⟩ := hI.dp
  intro f
  induction f with
  | zero =>
    intro i G l hf hi hG hB hL
    have hlen := hG.2.1.2.1
    have e : i = l.length := by omega
    have e41 := hG.2.1.1
    subst e
    have hh := h G l hG hB hL
    exact bX1_gather_19 hn ⟨⟨by omega, by omega⟩, fun _ => hh, fun q => by omega⟩
  | succ f ih =>
    intro i G l hf hi hG hB hL
    have e41 := hG.2.1.1
    by_cases e : i = l.length
    · subst e
      have hh := h G l hG hB hL
      exact bX1_gather_19 hn ⟨⟨by omega, by omega⟩, fun _ => hh, fun q => by omega⟩
    · have hlt : i < l.length := by omega
      obtain ⟨j, hj⟩ : ∃ j, l[i]? = some j := ⟨l[i], List.getElem?_eq_getElem hlt⟩
      have hjl := List.mem_of_getElem? hj
      have hjN := (hG.2.2.2.2 j hjl).1.1
      have e5 : G 5 i = g 3 j := hG.2.2.1 i j hj
      have hCP := hC.2.2.2.1 j hjN
      have hPK := hI.2.2.1 j hjN
      have pj := hCP.pt hPK.2
      have isk := hCP.isk hPK.2
      have bj := hC.cell hjN
      have l0 : l ≠ [] := fun z => by rw [z] at hlt; exact absurd hlt (Nat.not_lt_zero _)
      have nx : ∀ (G' : Hp) (l' : List Nat) (r : Nat), l.length ≤ l'.length → GS g a G' k0 l' → BQ a k0 (i + 1) l' → CL a (i + 1) l' → V miX1_gather (d + 2) 90 [(0, .ref 4), (1, .ref (g 3 k0).toNat), (2, I_ (i : Int)), (4, .ref r)] [] n (W0 dy) G' 0 0 P := fun G' l' r hl h1 h2 h3 => bX1_gather_90 hn (ih (i + 1) G' l' (by omega) (by omega) h1 h2 h3)
      refine bX1_gather_19 hn ⟨⟨by omega, by omega⟩, fun q => by omega, fun _ => ⟨fun q => by omega, fun _ => ⟨⟨by omega, by omega⟩, ?_⟩⟩⟩
      rw [show G 5 ((i : Nat) : Int).toNat = g 3 j from e5]
      refine ⟨Or.inr pj, fun q => ?_, fun q => ⟨?_, ?_⟩⟩
      · have nr : ¬ (a 57 j = 2 ∨ a 57 j = 3) := fun z => by rw [isk, if_pos z] at q; exact absurd q (by decide)
        have none6 : a 66 j = -1 ∧ a 67 j = -1 := by
          rcases hPK.2 with z | z | z
          · exact ⟨z.2.2.1, z.2.2.2⟩
          · exact absurd z.1 nr
          · exact ⟨z.2.2.1, z.2.2.2.1⟩
        exact nx G l _ (Nat.le_refl _) hG (hB.mono (by omega)) (hL.succ hj (fun z => by omega) (fun z => by omega))
      · exact hCP.ob (Decidable.byContradiction fun z => by rw [isk, if_neg z] at q; exact absurd rfl q)
      · have hrod : a 57 j = 2 ∨ a 57 j = 3 := Decidable.byContradiction fun z => by rw [isk, if_neg z] at q; exact absurd rfl q
        clear isk q
        obtain ⟨-, kl, kr⟩ := (hC.known hjN).2 hrod
        obtain ⟨pl1, pl2, pl3⟩ := hPK.1.2.2.2.1
        obtain ⟨pr1, pr2, pr3⟩ := hPK.1.2.2.2.2
        have obj := hCP.ob hrod
        have e14 : ∀ (G' : Hp) (l' : List Nat), GS g a G' k0 l' → G' (g 3 j).toNat 14 = rfx (g 3) (a 66 j) ∧ G' (g 3 j).toNat 15 = rfx (g 3) (a 67 j) := fun G' l' hG' => ⟨(hG'.1 _ 14 (by omega) (by omega) (by omega)).trans kl, (hG'.1 _ 15 (by omega) (by omega) (by omega)).trans kr⟩
        have fr7 : 0 ≤ a 67 j → (a 67 j).toNat ∉ l := fun z => hB.fresh hG hI hD hj (by omega) (pr3 z).1
        have fr6 : 0 ≤ a 66 j → (a 66 j).toNat ∉ l := fun z => hB.fresh hG hI hD hj (by omega) (pl3 z).1
        -- the right side, behind the left one
        have right : ∀ (G' : Hp) (l' : List Nat), l.length ≤ l'.length → (∀ y, y ∈ l → y ∈ l') → l'[i]? = some j → GS g a G' k0 l' → BQ a k0 (i + 1) l' → CL a i l' → (0 ≤ a 66 j → (a 66 j).toNat ∈ l') → (0 ≤ a 67 j → (a 67 j).toNat ∉ l') → V miX1_gather (d + 2) 74 [(0, .ref 4), (1, .ref (g 3 k0).toNat), (2, I_ (i : Int)), (3, .ref (g 3 j).toNat), (4, .ref (g 3 j).toNat)] [] n (W0 dy) G' 0 0 P := fun G' l' hl hsub hj' hG' hB' hL' h6 hfr => by
          refine bX1_gather_74 hn ⟨obj, ?_⟩
          rw [(e14 G' l' hG').2]
          have hi' : i < l'.length := (List.getElem?_eq_some_iff.mp hj').1
          refine add_side hG' hC hI (fun z => by rw [z] at hi'; exact absurd hi' (Nat.not_lt_zero _)) (hsub j hjl) ⟨pr1, pr2⟩ (fun z => (pr3 z).1) hfr (fun z => ?_) (fun z G2 hG2 => ?_)
          · exact nx G' l' _ hl hG' hB' (hL'.succ hj' h6 (fun y => by omega))
          · refine nx G2 _ _ (by rw [List.length_append]; omega) hG2 (hB'.app hj' (pr3 z).1) ((hL'.app (by omega)).succ (by rw [List.getElem?_append_left hi']; exact hj') (fun y => List.mem_append_left _ (h6 y)) (fun _ => List.mem_append_right _ (List.mem_singleton.mpr rfl)))
        rw [(e14 G l hG).1]
        refine add_side hG hC hI l0 hjl ⟨pl1, pl2⟩ (fun z => (pl3 z).1) fr6 (fun z => ?_) (fun z G1 hG1 => ?_)
        · exact right G l (Nat.le_refl _) (fun y hy => hy) hj hG (hB.mono (by omega)) hL (fun y => by omega) fr7
        · refine right G1 _ (by rw [List.length_append]; omega) (fun y hy => List.mem_append_left _ hy) (by rw [List.getElem?_append_left hlt]; exact hj) hG1 ((hB.mono (Nat.le_succ i)).app hj (pl3 z).1) (hL.app (by omega)) (fun _ => List.mem_append_right _ (List.mem_singleton.mpr rfl)) (fun y hm => ?_)
          rcases List.mem_append.mp hm with w | w
          · exact fr7 y w
          · have ew := List.mem_singleton.mp w
            have q1 := (pl3 z).2
            have q2 := (pr3 y).2
            rw [ew] at q2
            omega
/-- gather(), until all members stand -/
theorem cs_gather0 {k0 : Nat} (hC : Ca n dy g a) (hI : Inv a) (hk : (k0 : Int) < a 53 5) (h : ∀ (G : Hp) (l : List Nat), GS g a G k0 l → BQ a k0 l.length l → CL a l.length l → V miX1_gather (d + 2) 103 [(0, .ref 4), (1, .ref (g 3 k0).toNat), (2, I_ (G 4 1 - 1))] [] n (W0 dy) G 0 0 P) : Runs miX1_gather (d + 2) [.ref 4, .ref (g 3 k0).toNat] n (W0 dy) g P := by
  have hn := hC.1
  have hN := hI.1.2
  obtain ⟨dp, hD⟩ := hI.dp
  refine wX1_gather hn ?_
  have hC0 : Ca n dy (up2 (up2 g 4 1 0) 4 2 0) a := hC.keep (fun i q hi => by rw [up2_i (by unfold cl at hi; omega), up2_i (by unfold cl at hi; omega)])
  have e3 : (up2 (up2 g 4 1 0) 4 2 0) 3 k0 = g 3 k0 := rfl
  have hself : abv (a 60) k0 60 k0 = true := by rw [abv_eq hD hN hk, if_pos rfl]
  have G0 : GS g a (up2 (up2 g 4 1 0) 4 2 0) k0 [] := by
    refine ⟨fun i q h4 _ _ => by rw [up2_i h4, up2_i h4], ⟨rfl, by decide, List.nodup_nil⟩, fun m j hm => by simp at hm, fun j hj => ?_, fun j hj => absurd hj List.not_mem_nil⟩
    exact ⟨fun z => absurd z (hb_zero j), fun z => absurd z List.not_mem_nil⟩
  obtain ⟨-, hG1⟩ := G0.add (x := k0) (H := 0) (p := 0) hC hI hk List.not_mem_nil hself (by unfold rh; omega) (fun i hi => by
    rw [hb_or (by omega) hi]
    constructor
    · intro z
      rcases z with z | z
      · exact absurd z (hb_zero i)
      · rw [← z]; exact ⟨hk, hself, hself⟩
    · intro z
      obtain ⟨z1, z2, z3⟩ := z
      by_cases e : k0 = i
      · exact Or.inr e
      · have q1 := (abv_dp hD hN (dp k0) k0 rfl hk z2 e).1
        have q2 := (abv_dp hD hN (dp i) i rfl z1 z3 (fun y => e y.symm)).1
        omega)
  show Runs miX1_add (d + 1) [.ref 4, .ref ((up2 (up2 g 4 1 0) 4 2 0) 3 k0).toNat, I_ 0, L_ 0] n (W0 dy) (up2 (up2 g 4 1 0) 4 2 0) _
  have z41 : (up2 (up2 g 4 1 0) 4 2 0) 4 1 = 0 := rfl
  refine cs_add hC0 hI hk ⟨by omega, by omega⟩ (by decide) ?_
  refine bX1_gather_17 hn ?_
  refine gather_bfs hC hI h 60 0 _ [k0] rfl (Nat.zero_le _) hG1 ⟨rfl, fun m j hm h0 => ?_⟩ (fun m j hm => absurd hm (Nat.not_lt_zero _))
  have := (List.getElem?_eq_some_iff.mp hm).1
  rw [List.length_singleton] at this
  omega
end Gather3
