/-! CLEAR: the reference -/
section Clear7
variable {d n : Nat} {dy : Nat → Shp} {g a G3 G : Hp} {P : Pst} {H : List Nat} {L : List (Nat × Nat)} {r : List Nat} {v : Nat → Int}
theorem sp_next1 {i h h2 lst : Nat} (hn : 100 ≤ n) (hI : Inv a) (hR : HR a G3 H L r) (hE : EF G3 G) (e0 : H[i]? = some h) (e1 : H[i + 1]? = some h2) (el : H[H.length - 1]? = some lst) (hv : ∀ y : Nat, (y : Int) < a 53 5 → G 84 y = v y ∧ 0 ≤ v y ∧ v y ≤ 5) (hh : v h ≠ 0) (hz : ∀ j x : Nat, i < j → j < H.length - 1 → H[j]? = some x → v x = 0) (hP : ∀ G', EF G3 G' → (∀ y : Nat, G' 84 y = if y = h2 then v lst + 1 else if y = h then v h - 1 else if y = lst then 0 else G 84 y) → P (some (I_ 1)) n (W0 dy) G') : Runs miX12_nextChoice d [.ref 53, I_ (H.length : Int)] n (W0 dy) G P := by
  have hN := hI.1
  have h60 := hR.2.2.2.2.2.2.1
  have nd := hR.2.2.2.2.2.1
  have il := (List.getElem?_eq_some_iff.mp e1).1
  obtain ⟨a1, a2, -, -⟩ := hR.at hE e0
  obtain ⟨b1, b2, -, -⟩ := hR.at hE e1
  obtain ⟨c1, c2, -, -⟩ := hR.at hE el
  have et : ((H.length : Int) - 1).toNat = H.length - 1 := by omega
  have fl : G 85 ((H.length : Int) - 1).toNat = (lst : Int) := by rw [et]; exact c1
  have vl := hv lst c2
  have vh := hv h a2
  have hl : h ≠ lst := nd_ne nd e0 el (by omega)
  have key : ∀ u j : Nat, j = i + u → j < H.length - 1 → V miX12_nextChoice d 26 [(0, .ref 53), (1, I_ (H.length : Int)), (2, I_ (v lst)), (3, I_ (j : Int))] [] n (W0 dy) G 0 0 P := by
    intro u
    induction u with
    | zero =>
      intro j hj hjl
      have hj : j = i := hj
      subst hj
      have f0 : G 85 ((j : Nat) : Int).toNat = (h : Int) := a1
      have f1 : G 85 (((j : Nat) : Int) + 1).toNat = (h2 : Int) := by rw [show (((j : Nat) : Int) + 1).toNat = j + 1 by omega]; exact b1
      refine bX12_nextChoice_26 hn ⟨⟨by omega, by omega⟩, fun q => by omega, fun _ => ⟨⟨by omega, by omega⟩, ?_⟩⟩
      rw [f0, f1, fl]
      refine ⟨⟨by omega, by omega⟩, fun _ => ⟨fun _ => ⟨⟨by omega, by omega⟩, ⟨by omega, by omega⟩, fun w hw => ?_⟩, fun q => by omega⟩, fun q => absurd (vh.1.symm.trans q) hh⟩
      have hw : w = up2 G 84 lst 0 84 h - 1 := hw
      rw [up2_k, if_neg hl, vh.1] at hw
      refine ⟨⟨by omega, by omega⟩, ⟨by omega, by omega⟩, ⟨by omega, by omega⟩, ⟨by omega, by omega⟩, hP _ (fun i q i1 i2 => ?_) (fun y => ?_)⟩
      · rw [up2_i i2, up2_i i2, up2_i i2]; exact hE i q i1 i2
      · show up2 (up2 (up2 G 84 lst 0) 84 h w) 84 h2 (v lst + 1) 84 y = _
        rw [up2_k, up2_k, up2_k, hw]
    | succ u ih =>
      intro j hj hjl
      have jl : j < H.length := by omega
      have e : H[j]? = some (H[j]'jl) := List.getElem?_eq_some_iff.mpr ⟨jl, rfl⟩
      generalize H[j]'jl = x at e
      obtain ⟨x1, x2, -, -⟩ := hR.at hE e
      have vx := hz j x (by omega) hjl e
      have gx : G 84 x = 0 := (hv x x2).1.trans vx
      have f0 : G 85 ((j : Nat) : Int).toNat = (x : Int) := x1
      refine bX12_nextChoice_26 hn ⟨⟨by omega, by omega⟩, fun q => by omega, fun _ => ⟨⟨by omega, by omega⟩, ?_⟩⟩
      rw [f0]
      refine ⟨⟨by omega, by omega⟩, fun q => absurd gx q, fun _ => ?_⟩
      rw [show ((j : Nat) : Int) + (-1) = ((j - 1 : Nat) : Int) by omega]
      exact ih (j - 1) (by omega) (by omega)
  refine wX12_nextChoice hn ⟨⟨by omega, by omega⟩, fun q => by omega, fun _ => ⟨⟨by omega, by omega⟩, ?_⟩⟩
  rw [fl]
  refine ⟨⟨by omega, by omega⟩, fun w hw => ?_⟩
  have hw : w = G 84 lst := hw
  rw [hw, vl.1, show (H.length : Int) - 2 = ((H.length - 2 : Nat) : Int) by omega]
  exact key (H.length - 2 - i) (H.length - 2) (by omega) (by omega)
theorem sp_next0 (hn : 100 ≤ n) (hI : Inv a) (hR : HR a G3 H L r) (hE : EF G3 G) (hz : ∀ j x : Nat, j < H.length - 1 → H[j]? = some x → G 84 x = 0) (hP : P (some (I_ 0)) n (W0 dy) G) : Runs miX12_nextChoice d [.ref 53, I_ (H.length : Int)] n (W0 dy) G P := by
  have hN := hI.1
  have h60 := hR.2.2.2.2.2.2.1
  have key : ∀ (u : Nat) (w : Int), u ≤ H.length - 1 → V miX12_nextChoice d 26 [(0, .ref 53), (1, I_ (H.length : Int)), (2, I_ w), (3, I_ ((u : Int) - 1))] [] n (W0 dy) G 0 0 P := by
    intro u
    induction u with
    | zero =>
      intro w hu
      exact bX12_nextChoice_26 hn ⟨by decide, fun _ => ⟨fun q => absurd q (by decide), fun _ => hP⟩, fun q => absurd q (by decide)⟩
    | succ u ih =>
      intro w hu
      have jl : u < H.length := by omega
      have e : H[u]? = some (H[u]'jl) := List.getElem?_eq_some_iff.mpr ⟨jl, rfl⟩
      generalize H[u]'jl = x at e
      obtain ⟨x1, x2, -, -⟩ := hR.at hE e
      have gx := hz u x (by omega) e
      rw [show ((u + 1 : Nat) : Int) - 1 = (u : Int) by omega]
      have f0 : G 85 ((u : Nat) : Int).toNat = (x : Int) := x1
      refine bX12_nextChoice_26 hn ⟨⟨by omega, by omega⟩, fun q => by omega, fun _ => ⟨⟨by omega, by omega⟩, ?_⟩⟩
      rw [f0]
      refine ⟨⟨by omega, by omega⟩, fun q => absurd gx q, fun _ => ?_⟩
      rw [show ((u : Nat) : Int) + (-1) = (u : Int) - 1 by omega]
      exact ih w (by omega)
  by_cases c : H.length = 0
  · have e : (H.length : Int) = 0 := by omega
    rw [e]
    refine wX12_nextChoice hn ⟨by decide, fun _ => ?_, fun q => absurd q (by decide)⟩
    exact bX12_nextChoice_26 hn ⟨by decide, fun _ => ⟨fun q => absurd q (by decide), fun _ => hP⟩, fun q => absurd q (by decide)⟩
  · have el : H[H.length - 1]? = some (H[H.length - 1]'(by omega)) := List.getElem?_eq_some_iff.mpr ⟨by omega, rfl⟩
    generalize H[H.length - 1]'(by omega) = lst at el
    obtain ⟨c1, c2, -, -⟩ := hR.at hE el
    have fl : G 85 ((H.length : Int) - 1).toNat = (lst : Int) := by rw [show ((H.length : Int) - 1).toNat = H.length - 1 by omega]; exact c1
    refine wX12_nextChoice hn ⟨⟨by omega, by omega⟩, fun q => by omega, fun _ => ⟨⟨by omega, by omega⟩, ?_⟩⟩
    rw [fl]
    refine ⟨⟨by omega, by omega⟩, fun w hw => ?_⟩
    rw [show (H.length : Int) - 2 = ((H.length - 1 : Nat) : Int) - 1 by omega]
    exact key (H.length - 1) w (Nat.le_refl _)
/-- all ways to share s among the threads from the i-th on -/
theorem rs_block {x1 : Int} {S lst : Nat} (hn : 100 ≤ n) (hI : Inv a) (hR : HR a G3 H L r) (hl : H[H.length - 1]? = some lst) : ∀ (f i s : Nat) (m : Nat → Int) (t : Nat) (G : Hp) (h : Nat), H[i]? = some h → (H.length - i) + s + 1 ≤ f → (∀ j x : Nat, i < j → H[j]? = some x → m x = 0) → (∀ y, 0 ≤ m y ∧ m y + s ≤ 5) → t ≤ 20000 → EF G3 G → (∀ y : Nat, (y : Int) < a 53 5 → G 84 y = addv m h (s : Int) y) →
    ((RS a H L f (H.drop i) s m t).1 = 1 → ∀ G', rz G' = rz (lgt a H (RS a H L f (H.drop i) s m t).2.2) → Kc G3 G' → P (some (I_ (S : Int))) n (W0 dy) G') → ((RS a H L f (H.drop i) s m t).1 = 2 → ∀ G', EF G3 G' → P (some (I_ (-1))) n (W0 dy) (up2 G' 53 0 10)) → ((RS a H L f (H.drop i) s m t).1 = 0 → ∀ G', EF G3 G' → (∀ y : Nat, (y : Int) < a 53 5 → G' 84 y = addv m lst (s : Int) y) → Runs miX12_nextChoice (d + 1) [.ref 53, I_ (H.length : Int)] n (W0 dy) G' (fun w n' S' g' => V miX12_clear (d + 2) 190 [(0, .ref 53), (1, I_ x1), (2, I_ (H.length : Int)), (3, I_ ((RS a H L f (H.drop i) s m t).2.1 : Int)), (4, I_ (S : Int)), (5, I_ 1)] (w.toList ++ []) n' S' g' 0 0 P)) → V miX12_clear (d + 2) 140 [(0, .ref 53), (1, I_ x1), (2, I_ (H.length : Int)), (3, I_ (t : Int)), (4, I_ (S : Int)), (5, I_ 1)] [] n (W0 dy) G 0 0 P := by
  have hN := hI.1
  have nd := hR.2.2.2.2.2.1
  have lN := (hR.2.2.2.2.2.2.2 _ lst hl).2.1
  intro f
  induction f with
  | zero => intro i s m t G h e hf; omega
  | succ f ih =>
    intro i s m t G h e hf hm hb ht hE hv hF hS hG
    have il := (List.getElem?_eq_some_iff.mp e).1
    have hd : H.drop i = h :: H.drop (i + 1) := by
      rw [List.drop_eq_getElem_cons il, (List.getElem?_eq_some_iff.mp e).2]
    rw [hd] at hF hS hG
    cases s with
    | zero =>
      have un : RS a H L (f + 1) (h :: H.drop (i + 1)) 0 m t = leaf a H L m t := rfl
      rw [un] at hF hS hG
      rw [addv_0] at hG hv
      exact rs_leaf hn hI hR hE (fun y hy => ⟨hv y hy, by have := hb y; omega⟩) ht hF hS hG
    | succ s =>
      have un : RS a H L (f + 1) (h :: H.drop (i + 1)) (s + 1) m t = if (RS a H L f (h :: H.drop (i + 1)) s (inc m h) t).1 = 0 then RS a H L f (H.drop (i + 1)) (s + 1) m (RS a H L f (h :: H.drop (i + 1)) s (inc m h) t).2.1 else RS a H L f (h :: H.drop (i + 1)) s (inc m h) t := rfl
      rw [un] at hF hS hG
      rw [addv_inc] at hv
      have hm1 : ∀ j x : Nat, i < j → H[j]? = some x → inc m h x = 0 := fun j x hj ex => by
        unfold inc
        rw [if_neg (nd_ne nd ex e (by omega))]; exact hm j x hj ex
      have hb1 : ∀ y, 0 ≤ inc m h y ∧ inc m h y + s ≤ 5 := fun y => by
        have := hb y
        unfold inc; split <;> omega
      have ht1 := RS_t (a := a) (H := H) (L := L) f (h :: H.drop (i + 1)) s (inc m h) t ht
      refine ih i s (inc m h) t G h e (by omega) hm1 hb1 ht hE hv ?_ ?_ ?_
      · rw [hd]; intro c; rw [if_neg (by omega)] at hF; exact hF c
      · rw [hd]; intro c; rw [if_neg (by omega)] at hS; exact hS c
      · rw [hd]
        intro c G' hE' hv'
        rw [if_pos c] at hF hS hG
        generalize (RS a H L f (h :: H.drop (i + 1)) s (inc m h) t).2.1 = t1 at *
        by_cases last : i + 1 = H.length
        · have el : h = lst := by
            rw [show H.length - 1 = i by omega, e] at hl
            simpa using hl
          have dn : H.drop (i + 1) = [] := List.drop_eq_nil_iff.mpr (by omega)
          rw [dn] at hG
          have u2 : RS a H L f [] (s + 1) m t1 = (0, t1, m) := by cases f <;> rfl
          rw [u2] at hG
          refine hG rfl G' hE' fun y hy => ?_
          rw [hv' y hy, ← el, addv_inc]
        · have i1l : i + 1 < H.length := by omega
          have e1 : H[i + 1]? = some (H[i + 1]'i1l) := List.getElem?_eq_some_iff.mpr ⟨i1l, rfl⟩
          generalize H[i + 1]'i1l = h2 at e1
          have hne : h ≠ lst := nd_ne nd e hl (by omega)
          have m0 : m lst = 0 := hm (H.length - 1) lst (by omega) hl
          have m2 : m h2 = 0 := hm (i + 1) h2 (by omega) e1
          have vb : ∀ y : Nat, (y : Int) < a 53 5 → G' 84 y = addv (inc m h) lst (s : Int) y ∧ 0 ≤ addv (inc m h) lst (s : Int) y ∧ addv (inc m h) lst (s : Int) y ≤ 5 := fun y hy => by
            refine ⟨hv' y hy, ?_⟩
            have := hb1 y
            unfold addv; split <;> omega
          have vh : addv (inc m h) lst (s : Int) h = m h + 1 := by
            unfold addv inc
            rw [if_neg hne, if_pos rfl]
          have vl : addv (inc m h) lst (s : Int) lst = (s : Int) := by
            unfold addv inc
            rw [if_pos rfl, if_neg (fun z => hne z.symm), m0]; omega
          refine sp_next1 hn hI hR hE' e e1 hl vb (by rw [vh]; have := hb h; omega) (fun j x hj hjl ex => ?_) fun G2 hE2 hv2 => bX12_clear_190 hn ?_
          · have := hm1 j x hj ex
            unfold addv
            rw [if_neg (nd_ne nd ex hl (by omega))]; exact this
          · refine ih (i + 1) (s + 1) m t1 G2 h2 e1 (by omega) (fun j x hj ex => hm j x (by omega) ex) hb ht1 hE2 (fun y hy => ?_) hF hS hG
            rw [hv2 y, vh, vl]
            unfold addv
            by_cases c1 : y = h2
            · rw [if_pos c1, if_pos c1, c1, m2]; omega
            · rw [if_neg c1, if_neg c1]
              by_cases c2 : y = h
              · rw [if_pos c2, c2]; omega
              · rw [if_neg c2]
                by_cases c3 : y = lst
                · rw [if_pos c3, c3, m0]
                · rw [if_neg c3, hv' y hy]
                  unfold addv inc
                  rw [if_neg c3, if_neg c2]
theorem rs_clear_loop {x1 : Int} (hn : 100 ≤ n) (hI : Inv a) (hR : HR a G3 H L r) : ∀ (f s t : Nat) (G : Hp), f + s = 6 → t ≤ 20000 → EF G3 G → (∀ v a' g', clrS a H L f s t = (v, a') → rz g' = rz a' → Kc G3 g' → P (some (I_ v)) n (W0 dy) g') → V miX12_clear (d + 2) 97 [(0, .ref 53), (1, I_ x1), (2, I_ (H.length : Int)), (3, I_ (t : Int)), (4, I_ (s : Int))] [] n (W0 dy) G 0 0 P := by
  have hN := hI.1
  have h60 := hR.2.2.2.2.2.2.1
  have nd := hR.2.2.2.2.2.1
  have hz : ∀ {G'}, EF G3 G' → rz G' = rz a := fun hE => hE.rz.trans hR.1
  intro f
  induction f with
  | zero =>
    intro s t G hs ht hE hP
    refine bX12_clear_97 hn ⟨⟨by omega, by omega⟩, fun _ => wX12_refuse hn ⟨by decide, bX12_clear_207 hn (hP _ _ _ rfl ?_ ?_)⟩, fun q => by omega⟩
    · rw [rz_f0, rz_f0, hz hE]
    · exact fun i q hi => (up2_i (by omega)).trans (hE i q (by omega) (by omega))
  | succ f ih =>
    intro s t G hs ht hE hP
    have un : clrS a H L (f + 1) s t = if (RS a H L (H.length + s + 1) H s (fun _ => 0) t).1 = 1 then ((s : Int), lgt a H (RS a H L (H.length + s + 1) H s (fun _ => 0) t).2.2) else if (RS a H L (H.length + s + 1) H s (fun _ => 0) t).1 = 2 then (-1, up2 a 53 0 10) else clrS a H L f (s + 1) (RS a H L (H.length + s + 1) H s (fun _ => 0) t).2.1 := rfl
    rw [un] at hP
    clear un
    have f5 : G 53 5 = a 53 5 := rz_of (hz hE) (i := 53) (q := 5) rfl
    refine bX12_clear_97 hn ⟨⟨by omega, by omega⟩, fun q => by omega, fun _ => sp_noMore hn (by omega) fun G1 hG1 h84 => ?_⟩
    have hE1 : EF G3 G1 := fun i q i1 i2 => (hG1 i q i2).trans (hE i q i1 i2)
    have h84 : ∀ y : Nat, (y : Int) < a 53 5 → G1 84 y = 0 := fun y hy => h84 y (by omega)
    have code := RS_code (a := a) (H := H) (L := L) (H.length + s + 1) H s (fun _ => 0) t
    have tb := RS_t (a := a) (H := H) (L := L) (H.length + s + 1) H s (fun _ => 0) t ht
    -- what follows the last try
    have fin : (RS a H L (H.length + s + 1) H s (fun _ => 0) t).1 = 0 → ∀ G', EF G3 G' → V miX12_clear (d + 2) 97 [(0, .ref 53), (1, I_ x1), (2, I_ (H.length : Int)), (3, I_ ((RS a H L (H.length + s + 1) H s (fun _ => 0) t).2.1 : Int)), (4, I_ ((s : Int) + 1))] [] n (W0 dy) G' 0 0 P := fun c G' hE' => by
      rw [if_neg (by omega), if_neg (by omega)] at hP
      rw [show ((s : Nat) : Int) + 1 = ((s + 1 : Nat) : Int) by omega]
      exact ih (s + 1) _ G' (by omega) tb hE' hP
    have hF : (RS a H L (H.length + s + 1) H s (fun _ => 0) t).1 = 1 → ∀ G', rz G' = rz (lgt a H (RS a H L (H.length + s + 1) H s (fun _ => 0) t).2.2) → Kc G3 G' → P (some (I_ (s : Int))) n (W0 dy) G' := fun c G' z k => by
      rw [if_pos c] at hP
      exact hP _ _ _ rfl z k
    have hS : (RS a H L (H.length + s + 1) H s (fun _ => 0) t).1 = 2 → ∀ G', EF G3 G' → P (some (I_ (-1))) n (W0 dy) (up2 G' 53 0 10) := fun c G' hE' => by
      rw [if_neg (by omega), if_pos c] at hP
      refine hP _ _ _ rfl ?_ fun i q hi => (up2_i (by omega)).trans (hE' i q (by omega) (by omega))
      rw [rz_f0, rz_f0, hz hE']
    by_cases c : H.length = 0
    · have eH : H = [] := List.eq_nil_of_length_eq_zero c
      have e0 : (H.length : Int) = 0 := by omega
      cases s with
      | zero =>
        have u2 : RS a H L (H.length + 0 + 1) H 0 (fun _ => 0) t = leaf a H L (fun _ => 0) t := by rw [eH]; rfl
        rw [u2] at fin hF hS
        refine bX12_clear_107 hn ⟨⟨by omega, by omega⟩, fun q => by omega, fun _ => ⟨by decide, fun q => absurd rfl q, fun _ => ⟨fun _ => ?_, fun q => by omega⟩⟩⟩
        refine rs_leaf (S := 0) hn hI hR hE1 (v := fun _ => 0) (fun y hy => ⟨h84 y hy, by decide⟩) ht hF hS fun c G' hE' hv' => ?_
        refine sp_next0 hn hI hR hE' (fun j x hj => by omega) (bX12_clear_190 hn (bX12_clear_140 hn ⟨by decide, fun _ => fin c G' hE', fun q => absurd rfl q⟩))
      | succ s =>
        have u2 : RS a H L (H.length + (s + 1) + 1) H (s + 1) (fun _ => 0) t = (0, t, fun _ => 0) := by rw [eH]; rfl
        rw [u2] at fin
        have f2 := fin rfl G1 hE1
        exact bX12_clear_107 hn ⟨⟨by omega, by omega⟩, fun q => by omega, fun _ => ⟨⟨by omega, by omega⟩, fun _ => ⟨fun _ => bX12_clear_140 hn ⟨by decide, fun _ => f2, fun q => absurd rfl q⟩, fun q => by omega⟩, fun q => by omega⟩⟩
    · have el : H[H.length - 1]? = some (H[H.length - 1]'(by omega)) := List.getElem?_eq_some_iff.mpr ⟨by omega, rfl⟩
      generalize H[H.length - 1]'(by omega) = lst at el
      have e1 : H[0]? = some (H[0]'(by omega)) := List.getElem?_eq_some_iff.mpr ⟨by omega, rfl⟩
      generalize H[0]'(by omega) = h0 at e1
      obtain ⟨x1', x2, -, -⟩ := hR.at hE1 e1
      refine bX12_clear_107 hn ⟨⟨by omega, by omega⟩, fun _ => ⟨fun q => by omega, fun _ => ?_⟩, fun q => by omega⟩
      rw [x1']
      refine ⟨⟨by omega, by omega⟩, ⟨by omega, by omega⟩, ?_⟩
      refine rs_block hn hI hR el (H.length + s + 1) 0 s (fun _ => 0) t _ h0 e1 (by omega) (fun _ _ _ _ => rfl) (fun y => ⟨Int.le_refl _, by omega⟩) ht (fun i q i1 i2 => (up2_i i2).trans (hE1 i q i1 i2)) (fun y hy => ?_) hF hS fun c G' hE' hv' => ?_
      · show up2 G1 84 h0 (s : Int) 84 y = addv (fun _ => 0) h0 (s : Int) y
        rw [up2_k]
        unfold addv
        split
        · exact (Int.zero_add _).symm
        · exact h84 y hy
      · refine sp_next0 hn hI hR hE' (fun j x hj ex => ?_) (bX12_clear_190 hn (bX12_clear_140 hn ⟨by decide, fun _ => fin c G' hE', fun q => absurd rfl q⟩))
        have xN := (hR.at hE' ex).2.1
        rw [hv' x xN]
        unfold addv
        rw [if_neg (nd_ne nd ex el (by omega))]
end Clear7
