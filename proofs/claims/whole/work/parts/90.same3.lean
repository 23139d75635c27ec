/-! SAME: the reference -/
section Same4
variable {d n : Nat} {dy : Nat → Shp} {g a G : Hp} {P : Pst}
theorem rs_same_loop {x1 x2 : Nat} {r : List Nat} {G0 : Hp} (hn : 100 ≤ n) (hI : Inv a) (hz : rz G0 = rz a) (hO : OD a G0 r) (h1 : (x1 : Int) < a 53 5) (h2 : (x2 : Int) < a 53 5) (h : ∀ G, (∀ i q, i ≠ 73 → G i q = G0 i q) → (¬ LF a 60 x1 x2 → P (some (I_ 0)) n (W0 dy) G) ∧ (LF a 60 x1 x2 → P (some (I_ 1)) n (W0 dy) G)) : V miX12_same (d + 2) 59 [(0, .ref 53), (1, I_ (x1 : Int)), (2, I_ (x2 : Int)), (3, I_ 0)] [] n (W0 dy) G0 0 0 P := by
  have hN := hI.1
  obtain ⟨dp, hD⟩ := hI.dp
  obtain ⟨o1, o2, o3, o4, nd⟩ := hO
  have rN : ∀ y, y ∈ r → (y : Int) < a 53 5 := fun y hy => (o3 y).mp hy
  have refl : ∀ x : Nat, (x : Int) < a 53 5 → LF a 60 x x := fun x hx => LF_refl hI hD 60 x hx (by omega)
  have tr : ∀ x y z : Nat, (x : Int) < a 53 5 → (y : Int) < a 53 5 → (z : Int) < a 53 5 → LF a 60 x y → LF a 60 y z → LF a 60 x z := fun x y z => LF_trans hI 60 x y z
  have key : ∀ (t i : Nat) (G : Hp), t + i = r.length → (∀ i q, i ≠ 73 → G i q = G0 i q) → (∀ x y : Nat, x ∈ r.take i → y ∈ r.take i → (G 73 x = G 73 y ↔ LF a 60 x y)) → (∀ x : Nat, x ∈ r.take i → ∃ z : Nat, z ∈ r.take i ∧ G 73 x = (z : Int)) → V miX12_same (d + 2) 59 [(0, .ref 53), (1, I_ (x1 : Int)), (2, I_ (x2 : Int)), (3, I_ (i : Int))] [] n (W0 dy) G 0 0 P := by
    intro t
    induction t with
    | zero =>
      intro i G hi hG hk hv
      have f5 : G 53 5 = a 53 5 := (hG 53 5 (by decide)).trans (rz_of hz (i := 53) (q := 5) rfl)
      rw [List.take_of_length_le (by omega)] at hk
      have e := hk x1 x2 ((o3 x1).mpr h1) ((o3 x2).mpr h2)
      obtain ⟨g0, g1⟩ := h G hG
      exact bX12_same_59 hn ⟨⟨by omega, by omega⟩, fun _ => ⟨⟨by omega, by omega⟩, ⟨by omega, by omega⟩, fun q => g0 fun z => q (e.mpr z), fun q => g1 (e.mp q)⟩, fun q => by omega⟩
    | succ t ih =>
      intro i G hi hG hk hv
      have f5 : G 53 5 = a 53 5 := (hG 53 5 (by decide)).trans (rz_of hz (i := 53) (q := 5) rfl)
      have hzG : rz G = rz a := (rz_eq fun i q hl => hG i q (by unfold rl at hl; simp at hl; omega)).trans hz
      have il : i < r.length := by omega
      have e : r[i]? = some (r[i]'il) := List.getElem?_eq_some_iff.mpr ⟨il, rfl⟩
      generalize r[i]'il = k at e
      have kN := rN k (List.mem_of_getElem? e)
      have e71 : ∀ (j y : Nat), r[j]? = some y → G 71 ((j : Nat) : Int).toNat = (y : Int) := fun j y ej => (hG 71 j (by decide)).trans (o2 j y ej)
      have knt : k ∉ r.take i := fun z => by
        obtain ⟨j, ej⟩ := List.mem_iff_getElem?.mp z
        rw [List.getElem?_take] at ej
        split at ej
        · exact nd_ne nd ej e (by omega) rfl
        · exact absurd ej (by simp)
      -- what follows, k's number being w
      have fin : ∀ w : Int, (∀ x, x ∈ r.take i → (G 73 x = w ↔ LF a 60 x k)) → (∃ z : Nat, z ∈ r.take (i + 1) ∧ w = (z : Int)) → V miX12_same (d + 2) 59 [(0, .ref 53), (1, I_ (x1 : Int)), (2, I_ (x2 : Int)), (3, I_ ((i : Int) + 1))] [] n (W0 dy) (up2 G 73 k w) 0 0 P := fun w hw hwv => by
        rw [show ((i : Nat) : Int) + 1 = ((i + 1 : Nat) : Int) by omega]
        refine ih (i + 1) _ (by omega) (fun j q hj => (up2_i hj).trans (hG j q hj)) (fun x y hx hy => ?_) (fun x hx => ?_)
        · rw [up2_k, up2_k]
          rcases (mem_tk e).mp hx with mx | mx
          · rw [if_neg (fun z : x = k => knt (by rw [← z]; exact mx))]
            rcases (mem_tk e).mp hy with my | my
            · rw [if_neg (fun z : y = k => knt (by rw [← z]; exact my))]; exact hk x y mx my
            · rw [if_pos my, my]; exact hw x mx
          · rw [if_pos mx, mx]
            rcases (mem_tk e).mp hy with my | my
            · rw [if_neg (fun z : y = k => knt (by rw [← z]; exact my))]
              exact ⟨fun z => LF_sym 60 _ _ ((hw y my).mp z.symm), fun z => ((hw y my).mpr (LF_sym 60 _ _ z)).symm⟩
            · rw [if_pos my, my]; exact ⟨fun _ => refl k kN, fun _ => rfl⟩
        · rw [up2_k]
          rcases (mem_tk e).mp hx with mx | mx
          · rw [if_neg (fun z : x = k => knt (by rw [← z]; exact mx))]
            obtain ⟨z, z1, z2⟩ := hv x mx
            exact ⟨z, (mem_tk e).mpr (Or.inl z1), z2⟩
          · rw [if_pos mx]; exact hwv
      have inner : ∀ (u j : Nat), u + j = i → (∀ (j' y : Nat), j' < j → r[j']? = some y → ¬ LF a 60 y k) → V miX12_same (d + 2) 78 [(0, .ref 53), (1, I_ (x1 : Int)), (2, I_ (x2 : Int)), (3, I_ (i : Int)), (4, I_ (k : Int)), (5, I_ (j : Int))] [] n (W0 dy) G 0 0 P := by
        intro u
        induction u with
        | zero =>
          intro j hj hno
          refine bX12_same_78 hn ⟨⟨by omega, by omega⟩, ⟨by omega, by omega⟩, fun _ => ⟨fun _ => ⟨⟨by omega, by omega⟩, fin (k : Int) (fun x hx => ⟨fun z => ?_, fun z => ?_⟩) ⟨k, (mem_tk e).mpr (Or.inr rfl), rfl⟩⟩, fun q => by omega⟩, fun q => by omega⟩
          · obtain ⟨z1, z2, z3⟩ := hv x hx
            have : z1 = k := by omega
            exact absurd (this ▸ z2) knt
          · obtain ⟨j', ej⟩ := List.mem_iff_getElem?.mp hx
            rw [List.getElem?_take] at ej
            split at ej
            · exact absurd z (hno j' x (by omega) ej)
            · exact absurd ej (by simp)
        | succ u ihu =>
          intro j hj hno
          have jl : j < r.length := by omega
          have ej : r[j]? = some (r[j]'jl) := List.getElem?_eq_some_iff.mpr ⟨jl, rfl⟩
          generalize r[j]'jl = y at ej
          have yN := rN y (List.mem_of_getElem? ej)
          have yt : y ∈ r.take i := List.mem_of_getElem? (by rw [List.getElem?_take, if_pos (show j < i by omega)]; exact ej)
          refine bX12_same_78 hn ⟨⟨by omega, by omega⟩, ⟨by omega, by omega⟩, fun q => by omega, fun _ => ⟨⟨by omega, by omega⟩, ?_⟩⟩
          rw [e71 j y ej]
          refine sp_isLike hn hI hzG yN kN (fun s t hs ht es et => ?_) (fun z => ?_) (fun z => ?_)
          · have s1 := o4 j y s ej hs es
            have t1 := o4 i k t e ht et
            have s2 : s ∈ r.take i := by
              obtain ⟨j', e'⟩ := List.mem_iff_getElem?.mp s1
              rw [List.getElem?_take] at e'
              split at e'
              · exact List.mem_of_getElem? (by rw [List.getElem?_take, if_pos (show j' < i by omega)]; exact e')
              · exact absurd e' (by simp)
            exact hk s t s2 t1
          · refine bX12_same_97 hn ⟨by decide, fun q => absurd rfl q, fun _ => ?_⟩
            rw [show ((j : Nat) : Int) + 1 = ((j + 1 : Nat) : Int) by omega]
            refine ihu (j + 1) (by omega) fun j' y' hj' e' => ?_
            by_cases c : j' = j
            · rw [c, ej] at e'
              have e' : y = y' := by simpa using e'
              rw [← e']; exact z
            · exact hno j' y' (by omega) e'
          · refine bX12_same_97 hn ⟨by decide, fun _ => ⟨⟨by omega, by omega⟩, ⟨by omega, by omega⟩, fun q => by omega, fun _ => ⟨⟨by omega, by omega⟩, ?_⟩⟩, fun q => absurd q (by decide)⟩
            rw [e71 j y ej]
            refine ⟨⟨by omega, by omega⟩, ⟨by omega, by omega⟩, fin _ (fun x hx => ?_) ?_⟩
            · have xN := rN x (List.mem_of_mem_take hx)
              have q := hk x y hx yt
              exact ⟨fun w => tr x y k xN yN kN (q.mp w) z, fun w => q.mpr (tr x k y xN kN yN w (LF_sym 60 _ _ z))⟩
            · obtain ⟨z1, z2, z3⟩ := hv y yt
              exact ⟨z1, (mem_tk e).mpr (Or.inl z2), z3⟩
      refine bX12_same_59 hn ⟨⟨by omega, by omega⟩, fun q => by omega, fun _ => ⟨⟨by omega, by omega⟩, ?_⟩⟩
      rw [e71 i k e]
      exact inner i 0 (by omega) (fun j' y hj => by omega)
  exact key r.length 0 G0 (by omega) (fun _ _ _ => rfl) (fun x y hx => by simp at hx) (fun x hx => by simp at hx)
theorem rs_same {x1 x2 : Int} (hn : 100 ≤ n) (hI : Inv g) (h1 : i3 x1) (h2 : i3 x2) (h : ∀ v g' a', opSame (up2 (up2 g 53 1 0) 53 0 0) x1 x2 = (v, a') → rz g' = rz a' → Kc (up2 (up2 g 53 1 0) 53 0 0) g' → P (some (I_ v)) n (W0 dy) g') : Runs miX12_same (d + 2) [.ref 53, I_ x1, I_ x2] n (W0 dy) g P := by
  have hI1 : Inv (up2 g 53 1 0) := hI
  refine wX12_same hn ?_
  generalize (up2 g 53 1 0) = g1 at h hI1 ⊢
  clear hI
  have hN := hI1.1.2
  have no : ∀ T : Int, opSame (up2 g1 53 0 0) x1 x2 = (-1, up2 (up2 g1 53 0 0) 53 0 T) → P (some (I_ (-1))) n (W0 dy) (up2 g1 53 0 T) := fun T e => by
    have e2 : up2 g1 53 0 T = up2 (up2 g1 53 0 0) 53 0 T := by rw [up2_up]
    rw [e2]
    exact h _ _ _ e rfl ((Kc.refl _).up (by omega))
  have v1 := topI_v g1 x1
  have v2 := topI_v g1 x2
  have no2 : (topI g1 x1 = 2 ∨ topI g1 x2 = 2) → P (some (I_ (-1))) n (W0 dy) (up2 g1 53 0 2) := fun c => no 2 (by unfold opSame; exact if_pos c)
  refine spX12_topped hn hN h1 (bX12_same_11 hn ⟨topI_i3 _ _, fun c => no2 (Or.inl c), fun c1 => spX12_topped hn hN h2 (bX12_same_20 hn ⟨topI_i3 _ _, fun c2 => spX12_topped hn hN h1 (bX12_same_33 hn (spX12_topped hn hN h2 (bX12_same_38 hn ⟨topI_i3 _ _, topI_i3 _ _, fun c3 => ?_, fun c3 => ?_⟩))), fun c => no2 (Or.inr c)⟩)⟩)
  · have z1 : topI g1 x1 = 0 := by omega
    have z2 : topI g1 x2 = 0 := by omega
    have em : max (topI g1 x1) (topI g1 x2) = 0 := by rw [z1, z2]; rfl
    rw [em]
    obtain ⟨d1, d2, d3⟩ := topI_0 z1
    obtain ⟨e1, e2, e3⟩ := topI_0 z2
    obtain ⟨x, rfl⟩ := exN d1
    obtain ⟨y, rfl⟩ := exN e1
    have hI2 : Inv (up2 g1 53 0 0) := hI1
    have hx : (x : Int) < up2 g1 53 0 0 53 5 := d2
    have hy : (y : Int) < up2 g1 53 0 0 53 5 := e2
    have eop : opSame (up2 g1 53 0 0) (x : Int) (y : Int) = (bI (LF (up2 g1 53 0 0) 60 x y), up2 g1 53 0 0) := by
      unfold opSame
      rw [if_neg (fun z => by have z : topI g1 (x : Int) = 2 ∨ topI g1 (y : Int) = 2 := z; omega)]
      exact if_neg (fun z => by have z : 0 < topI g1 (x : Int) ∨ 0 < topI g1 (y : Int) := z; omega)
    rw [eop] at h
    clear eop no no2 v1 v2 c1 c2 c3 z1 z2 em d1 d2 d3 e1 e2 e3
    generalize (up2 g1 53 0 0) = a at h hI2 hx hy ⊢
    have hF : RF a := ⟨hI2.1, hI2.dp⟩
    refine rs_orders hn hF fun G r hG hO => bX12_same_57 hn ?_
    have hz : rz G = rz a := rz_eq fun i q hl => hG i q (by unfold rl at hl; simp at hl; omega) (by unfold rl at hl; simp at hl; omega)
    refine rs_same_loop hn hI2 hz hO hx hy fun G2 hG2 => ?_
    have hz2 : rz G2 = rz a := (rz_eq fun i q hl => hG2 i q (by unfold rl at hl; simp at hl; omega)).trans hz
    have kc : Kc a G2 := fun i q hi => (hG2 i q (by omega)).trans (hG i q (by omega) (by omega))
    refine ⟨fun z => ?_, fun z => ?_⟩
    · rw [bI_f z] at h; exact h _ _ _ rfl hz2 kc
    · rw [bI_t z] at h; exact h _ _ _ rfl hz2 kc
  · have em : max (topI g1 x1) (topI g1 x2) = 8 := by omega
    rw [em]
    refine no 8 ?_
    unfold opSame
    rw [if_neg (fun z => by have z : topI g1 x1 = 2 ∨ topI g1 x2 = 2 := z; omega)]
    exact if_pos (by show 0 < topI g1 x1 ∨ 0 < topI g1 x2; omega)
theorem LF_rz {g g1 : Hp} (h : rz g1 = rz g) (f x y : Nat) : LF g1 f x y ↔ LF g f x y := LF_cg (fun i i1 i2 => rz_row h fun q => by
    have c1 : Nat.ble 54 i = true := Nat.ble_eq_true_of_le (by omega)
    have c2 : Nat.ble i 70 = true := Nat.ble_eq_true_of_le (by omega)
    unfold rl; rw [c1, c2]; rfl) f x y
theorem opSame_cg {g g1 : Hp} (h : rz g1 = rz g) (x1 x2 : Int) : (opSame g1 x1 x2).1 = (opSame g x1 x2).1 ∧ rz (opSame g1 x1 x2).2 = rz (opSame g x1 x2).2 := by
  have st : ∀ T : Int, rz (up2 g1 53 0 T) = rz (up2 g 53 0 T) := fun T => by rw [rz_f0, rz_f0, h]
  have e : bI (LF g1 60 x1.toNat x2.toNat) = bI (LF g 60 x1.toNat x2.toNat) := by
    by_cases c : LF g 60 x1.toNat x2.toNat
    · rw [bI_t c, bI_t ((LF_rz h _ _ _).mpr c)]
    · rw [bI_f c, bI_f fun z => c ((LF_rz h _ _ _).mp z)]
  unfold opSame
  rw [topI_rz h, topI_rz h, e]
  split
  · exact ⟨rfl, st _⟩
  · split
    · exact ⟨rfl, st _⟩
    · exact ⟨rfl, h⟩
theorem inv_same {a : Hp} (hI : Inv a) (x1 x2 : Int) : Inv (opSame a x1 x2).2 := by
  unfold opSame
  split
  · exact hI.st _
  · split
    · exact hI.st _
    · exact hI
end Same4
