/-! CLEAR: the reference's search -/
def addv (m : Nat → Int) (h : Nat) (s : Int) : Nat → Int := fun y => if y = h then m y + s else m y
theorem addv_inc (m : Nat → Int) (h : Nat) (s : Nat) : addv m h ((s + 1 : Nat) : Int) = addv (inc m h) h (s : Int) := by
  funext y
  unfold addv inc
  by_cases c : y = h
  · rw [if_pos c, if_pos c, if_pos c]; omega
  · rw [if_neg c, if_neg c, if_neg c]
theorem addv_0 (m : Nat → Int) (h : Nat) : addv m h ((0 : Nat) : Int) = m := by
  funext y
  unfold addv
  split
  · exact Int.add_zero _
  · rfl
theorem cntP_le (H : Nat → Int) : ∀ L : List (Nat × Nat), cntP H L ≤ L.length
  | [] => Int.le_refl _
  | p :: L => by
    have := cntP_le H L
    show (if H p.1 = H p.2 then 1 else 0) + cntP H L ≤ ((L.length + 1 : Nat) : Int)
    split <;> omega
theorem RS_t {a : Hp} {H : List Nat} {L : List (Nat × Nat)} : ∀ (f : Nat) (hs : List Nat) (s : Nat) (m : Nat → Int) (t : Nat), t ≤ 20000 → (RS a H L f hs s m t).2.1 ≤ 20000
  | 0, _, _, _, _, h => h
  | f + 1, hs, 0, m, t, h => by
    have un : RS a H L (f + 1) hs 0 m t = leaf a H L m t := by cases hs <;> rfl
    rw [un]
    unfold leaf
    repeat' split
    all_goals first | exact h | (show t + 1 ≤ 20000; omega)
  | _ + 1, [], _ + 1, _, _, h => h
  | f + 1, x :: hs, s + 1, m, t, h => by
    have un : RS a H L (f + 1) (x :: hs) (s + 1) m t = if (RS a H L f (x :: hs) s (inc m x) t).1 = 0 then RS a H L f hs (s + 1) m (RS a H L f (x :: hs) s (inc m x) t).2.1 else RS a H L f (x :: hs) s (inc m x) t := rfl
    have h1 := RS_t (a := a) (H := H) (L := L) f (x :: hs) s (inc m x) t h
    rw [un]
    split
    · exact RS_t f _ _ _ _ h1
    · exact h1
/-- the reference's heap while it searches -/
def EF (G3 G : Hp) : Prop := ∀ i q, i ≠ 83 → i ≠ 84 → G i q = G3 i q
/-- what it searches over -/
def HR (a G3 : Hp) (H : List Nat) (L : List (Nat × Nat)) (r : List Nat) : Prop := rz G3 = rz a ∧ OD a G3 r ∧ PA G3 L ∧ (∀ p, p ∈ L → (p.1 : Int) < a 53 5 ∧ (p.2 : Int) < a 53 5) ∧ L.length ≤ 1770 ∧ H.Nodup ∧ H.length ≤ 60 ∧ (∀ i h : Nat, H[i]? = some h → G3 85 i = (h : Int) ∧ (h : Int) < a 53 5 ∧ 0 ≤ a 60 h)
section Clear6
variable {d n : Nat} {dy : Nat → Shp} {a G3 G : Hp} {P : Pst} {H : List Nat} {L : List (Nat × Nat)} {r : List Nat} {v : Nat → Int}
theorem EF.trans {G1 G2 : Hp} (h : EF G3 G1) (h' : EF G1 G2) : EF G3 G2 := fun i q i1 i2 => (h' i q i1 i2).trans (h i q i1 i2)
theorem EF.rz (h : EF G3 G) : rz G = rz G3 := rz_eq fun i q hl => h i q (by unfold rl at hl; simp at hl; omega) (by unfold rl at hl; simp at hl; omega)
theorem HR.at (hR : HR a G3 H L r) (hE : EF G3 G) {i h : Nat} (e : H[i]? = some h) : G 85 i = (h : Int) ∧ (h : Int) < a 53 5 ∧ 0 ≤ a 60 h ∧ G 62 h = a 62 h := by
  obtain ⟨z, -, -, -, -, -, -, x⟩ := hR
  obtain ⟨x1, x2, x3⟩ := x i h e
  refine ⟨(hE 85 i (by decide) (by decide)).trans x1, x2, x3, (hE 62 h (by decide) (by decide)).trans ?_⟩
  rw [rz_row (i := 62) z (fun _ => rfl)]
theorem sp_areThreads (hn : 100 ≤ n) (hI : Inv a) (hR : HR a G3 H L r) (hE : EF G3 G) (hv : ∀ y : Nat, (y : Int) < a 53 5 → G 84 y = v y ∧ 0 ≤ v y ∧ v y ≤ 5) (h0 : okT a H v = false → P (some (I_ 0)) n (W0 dy) G) (h1 : okT a H v = true → P (some (I_ 1)) n (W0 dy) G) : Runs miX12_areThreads d [.ref 53, I_ (H.length : Int)] n (W0 dy) G P := by
  have hN := hI.1
  have h60 := hR.2.2.2.2.2.2.1
  have key : ∀ (t : List Nat) (i : Nat), i ≤ H.length → H.drop i = t → (∀ h, h ∈ H.take i → a 62 h + v h ≤ 1000) → V miX12_areThreads d 2 [(0, .ref 53), (1, I_ (H.length : Int)), (2, I_ (i : Int))] [] n (W0 dy) G 0 0 P := by
    intro t
    induction t with
    | nil =>
      intro i hi hr hx
      have hl := List.drop_eq_nil_iff.mp hr
      rw [List.take_of_length_le hl] at hx
      exact bX12_areThreads_2 hn ⟨⟨by omega, by omega⟩, ⟨by omega, by omega⟩, fun _ => h1 (okT_t.mpr hx), fun q => by omega⟩
    | cons x t ih =>
      intro i hi hr hx
      obtain ⟨e, er, il⟩ := dropc hr
      obtain ⟨x1, x2, x3, x4⟩ := hR.at hE e
      have t62 := ((hI.2.2.1 x x2).1.2.2.1 x3).1
      obtain ⟨v1, v2, v3⟩ := hv x x2
      refine bX12_areThreads_2 hn ⟨⟨by omega, by omega⟩, ⟨by omega, by omega⟩, fun q => by omega, fun _ => ⟨⟨by omega, by omega⟩, ?_⟩⟩
      rw [show G 85 ((i : Nat) : Int).toNat = (x : Int) from x1]
      show ((0 : Int) ≤ (x : Int) ∧ (x : Int) < 60) ∧ i3 (G 62 x + G 84 x) ∧ (G 62 x + G 84 x ≤ 1000 → _) ∧ (1000 < G 62 x + G 84 x → _)
      rw [x4, v1]
      refine ⟨⟨by omega, by omega⟩, ⟨by omega, by omega⟩, fun q => ?_, fun q => h0 ?_⟩
      · rw [show ((i : Nat) : Int) + 1 = ((i + 1 : Nat) : Int) by omega]
        refine ih (i + 1) (by omega) er fun h hh => ?_
        rcases (mem_tk e).mp hh with w | w
        · exact hx h w
        · rw [w]; exact q
      · cases hb : okT a H v with
        | false => rfl
        | true =>
          have := okT_t.mp hb x (List.mem_of_getElem? e)
          omega
  exact wX12_areThreads hn (key H 0 (Nat.zero_le _) rfl (fun h hh => by simp at hh))
theorem sp_lengthenR {S : Int} (hn : 100 ≤ n) (hI : Inv a) (hR : HR a G3 H L r) (hE : EF G3 G) (hv : ∀ y : Nat, (y : Int) < a 53 5 → G 84 y = v y ∧ 0 ≤ v y ∧ v y ≤ 5) (h : ∀ G', rz G' = rz (lgt a H v) → Kc G G' → P (some (I_ S)) n (W0 dy) G') : Runs miX12_lengthen d [.ref 53, I_ (H.length : Int), I_ S] n (W0 dy) G P := by
  have hN := hI.1
  have h60 := hR.2.2.2.2.2.2.1
  have nd := hR.2.2.2.2.2.1
  have hz : rz G = rz a := hE.rz.trans hR.1
  have key : ∀ (t : List Nat) (i : Nat) (G' : Hp), i ≤ H.length → H.drop i = t → (∀ j q, j ≠ 62 → G' j q = G j q) → (∀ y : Nat, G' 62 y = if y ∈ H.take i then a 62 y + v y else a 62 y) → V miX12_lengthen d 2 [(0, .ref 53), (1, I_ (H.length : Int)), (2, I_ S), (3, I_ (i : Int))] [] n (W0 dy) G' 0 0 P := by
    intro t
    induction t with
    | nil =>
      intro i G' hi hr hg hu
      have hl := List.drop_eq_nil_iff.mp hr
      rw [List.take_of_length_le hl] at hu
      refine bX12_lengthen_2 hn ⟨⟨by omega, by omega⟩, ⟨by omega, by omega⟩, fun _ => h G' (rz_eq fun j q hl => ?_) (fun j q hj => hg j q (by omega)), fun q => by omega⟩
      by_cases c : j = 62
      · rw [c, hu q]
        show _ = if 62 = 62 ∧ q ∈ H then a 62 q + v q else a 62 q
        by_cases w : q ∈ H
        · rw [if_pos w, if_pos ⟨rfl, w⟩]
        · rw [if_neg w, if_neg fun z => w z.2]
      · rw [hg j q c]
        show _ = if j = 62 ∧ q ∈ H then a 62 q + v q else a j q
        rw [if_neg fun z => c z.1]
        exact rz_of hz hl
    | cons x t ih =>
      intro i G' hi hr hg hu
      obtain ⟨e, er, il⟩ := dropc hr
      obtain ⟨x1, x2, x3, x4⟩ := hR.at hE e
      have t62 := ((hI.2.2.1 x x2).1.2.2.1 x3).1
      obtain ⟨v1, v2, v3⟩ := hv x x2
      have nt : x ∉ H.take i := fun z => by
        obtain ⟨j, ej⟩ := List.mem_iff_getElem?.mp z
        rw [List.getElem?_take] at ej
        split at ej
        · exact nd_ne nd ej e (by omega) rfl
        · exact absurd ej (by simp)
      refine bX12_lengthen_2 hn ⟨⟨by omega, by omega⟩, ⟨by omega, by omega⟩, fun q => by omega, fun _ => ⟨⟨by omega, by omega⟩, ?_⟩⟩
      rw [show G' 85 ((i : Nat) : Int).toNat = (x : Int) from (hg 85 i (by decide)).trans x1]
      refine ⟨⟨by omega, by omega⟩, fun w hw => ?_⟩
      have hw : w = G' 62 x + G' 84 x := hw
      rw [hu x, if_neg nt, hg 84 x (by decide), v1] at hw
      rw [show ((i : Nat) : Int) + 1 = ((i + 1 : Nat) : Int) by omega]
      refine ⟨⟨by omega, by omega⟩, ih (i + 1) _ (by omega) er (fun j q hj => ?_) (fun y => ?_)⟩
      · rw [up2_i hj]; exact hg j q hj
      · show up2 G' 62 x w 62 y = _
        rw [up2_k]
        by_cases c : y = x
        · rw [if_pos c, if_pos ((mem_tk e).mpr (Or.inr c)), c]; exact hw
        · have hm : y ∈ H.take (i + 1) ↔ y ∈ H.take i := by rw [mem_tk e]; exact ⟨fun q => q.resolve_right c, Or.inl⟩
          rw [if_neg c, hu y]
          simp only [hm]
  refine wX12_lengthen hn (key H 0 G (Nat.zero_le _) rfl (fun _ _ _ => rfl) (fun y => ?_))
  rw [if_neg (by simp), rz_row (i := 62) hz (fun _ => rfl)]
/-- one try -/
theorem rs_leaf {x1 : Int} {S t : Nat} (hn : 100 ≤ n) (hI : Inv a) (hR : HR a G3 H L r) (hE : EF G3 G) (hv : ∀ y : Nat, (y : Int) < a 53 5 → G 84 y = v y ∧ 0 ≤ v y ∧ v y ≤ 5) (ht : t ≤ 20000) (hF : (leaf a H L v t).1 = 1 → ∀ G', rz G' = rz (lgt a H (leaf a H L v t).2.2) → Kc G3 G' → P (some (I_ (S : Int))) n (W0 dy) G') (hS : (leaf a H L v t).1 = 2 → ∀ G', EF G3 G' → P (some (I_ (-1))) n (W0 dy) (up2 G' 53 0 10)) (hG : (leaf a H L v t).1 = 0 → ∀ G', EF G3 G' → (∀ y : Nat, (y : Int) < a 53 5 → G' 84 y = v y) → Runs miX12_nextChoice (d + 1) [.ref 53, I_ (H.length : Int)] n (W0 dy) G' (fun w n' S' g' => V miX12_clear (d + 2) 190 [(0, .ref 53), (1, I_ x1), (2, I_ (H.length : Int)), (3, I_ ((leaf a H L v t).2.1 : Int)), (4, I_ (S : Int)), (5, I_ 1)] (w.toList ++ []) n' S' g' 0 0 P)) : V miX12_clear (d + 2) 140 [(0, .ref 53), (1, I_ x1), (2, I_ (H.length : Int)), (3, I_ (t : Int)), (4, I_ (S : Int)), (5, I_ 1)] [] n (W0 dy) G 0 0 P := by
  have hN := hI.1
  obtain ⟨dp, hD⟩ := hI.dp
  obtain ⟨z, hO, hP, hL, hlen, -⟩ := id hR
  refine bX12_clear_140 hn ⟨by decide, fun q => absurd q (by decide), fun _ => sp_areThreads hn hI hR hE hv (fun c => ?_) (fun c => ?_)⟩
  · have un : leaf a H L v t = (0, t, v) := by unfold leaf; rw [if_neg (by rw [c]; decide)]
    rw [un] at hG
    exact bX12_clear_150 hn ⟨by decide, fun _ => hG rfl G hE (fun y hy => (hv y hy).1), fun q => absurd rfl q⟩
  · have un : leaf a H L v t = if 20000 ≤ t then (2, t, v) else if cntP (hgtm a v) L = 0 then (1, t + 1, v) else (0, t + 1, v) := by unfold leaf; rw [if_pos c]
    rw [un] at hF hS hG
    refine bX12_clear_150 hn ⟨by decide, fun q => absurd q (by decide), fun _ => ⟨⟨by omega, by omega⟩, fun q => ?_, fun q => ?_⟩⟩
    · rw [if_neg (by omega)] at hF hG
      have hO2 : OD a G r := hO.mv rfl rfl (funext fun q => hE 71 q (by decide) (by decide))
      have hP2 : PA G L := ⟨(hE 53 35 (by decide) (by decide)).trans hP.1, fun m p e => by rw [hE 81 m (by decide) (by decide), hE 82 m (by decide) (by decide)]; exact hP.2 m p e⟩
      refine sp_meets hn hI (hE.rz.trans z) hO2 hP2 hL hlen (fun y hy => by rw [(hv y hy).1]; exact (hv y hy).2) fun G2 hG2 => ?_
      have ec : cntP (hgtm a (G 84)) L = cntP (hgtm a v) L := cntP_cg _ fun p hp => ⟨hgt_cg hD (fun k hk => by show a 62 k + G 84 k = a 62 k + v k; rw [(hv k hk).1]) 60 _ (hL p hp).1, hgt_cg hD (fun k hk => by show a 62 k + G 84 k = a 62 k + v k; rw [(hv k hk).1]) 60 _ (hL p hp).2⟩
      rw [ec]
      have hE2 : EF G3 G2 := fun i q i1 i2 => (hG2 i q i1).trans (hE i q i1 i2)
      have hv2 : ∀ y : Nat, (y : Int) < a 53 5 → G2 84 y = v y ∧ 0 ≤ v y ∧ v y ≤ 5 := fun y hy => ⟨(hG2 84 y (by decide)).trans (hv y hy).1, (hv y hy).2⟩
      have b1 := cntP_nn (hgtm a v) L
      have b2 := cntP_le (hgtm a v) L
      rw [show ((t : Nat) : Int) + 1 = ((t + 1 : Nat) : Int) by omega]
      refine bX12_clear_174 hn ⟨⟨by omega, by omega⟩, fun q => ?_, fun q => ?_⟩
      · rw [if_neg q] at hG
        exact hG rfl G2 hE2 fun y hy => (hv2 y hy).1
      · rw [if_pos q] at hF
        exact sp_lengthenR hn hI hR hE2 hv2 fun G4 hz4 hk4 => bX12_clear_184 hn (hF rfl G4 hz4 fun i q hi => (hk4 i q hi).trans (hE2 i q (by omega) (by omega)))
    · rw [if_pos (by omega)] at hS
      exact wX12_refuse hn ⟨by decide, bX12_clear_166 hn (hS rfl G hE)⟩
end Clear6
