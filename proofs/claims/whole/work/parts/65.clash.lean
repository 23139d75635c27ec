/-! CLASH: both sides -/
theorem top_on {N : Int} {on : Nat → Int} {dp : Nat → Nat} (hD : DP N on dp) (hN : N ≤ 60) : ∀ f k : Nat, dp k = f → (k : Int) < N → on (top on 60 k) < 0 := by
  intro f
  induction f with
  | zero =>
    intro k hf hk
    have c : on k < 0 := by
      by_cases c : on k < 0
      · exact c
      · have := (hD k hk).2.2.2 (by omega); omega
    rw [top_eq hD hN hk, if_pos c]; exact c
  | succ f ih =>
    intro k hf hk
    have c : ¬ on k < 0 := fun c => by have := (hD k hk).2.2.1 c; omega
    have h3 := (hD k hk).2.2.2 (by omega)
    have h1 := (hD k hk).1
    rw [top_eq hD hN hk, if_neg c]
    exact ih _ (by omega) (by omega)
def opClash (a : Hp) (x1 x2 : Int) : Int × Hp :=
  if x1 < 0 ∨ a 53 5 ≤ x1 ∨ x2 < 0 ∨ a 53 5 ≤ x2 ∨ x1 = x2 then (-1, up2 a 53 0 2)
  else if a 57 x1.toNat ≠ 1 ∨ a 57 x2.toNat ≠ 1 then (-1, up2 a 53 0 5)
  else if top (a 60) 60 x1.toNat ≠ top (a 60) 60 x2.toNat then (-1, up2 a 53 0 8)
  else if nr a x1.toNat x2.toNat < 0 then (-1, up2 a 53 0 9)
  else (if hh a x1.toNat = hh a x2.toNat then nr a x1.toNat x2.toNat else 0, a)
section Clash
variable {d n : Nat} {dy : Nat → Shp} {g a G : Hp} {P : Pst} {l : List Nat}
theorem tc_b (x y : Nat) : tc a x y = 0 ∨ tc a x y = 1 := by unfold tc; split <;> omega
theorem nr_b (x y : Nat) : nr a x y = -1 ∨ nr a x y = 0 ∨ nr a x y = 1 := by
  have := tc_b (a := a) x y
  unfold nr; split <;> omega
theorem rs_clash {x1 x2 : Int} (hn : 100 ≤ n) (hI : Inv g) (h1 : i3 x1) (h2 : i3 x2) (h : ∀ v g' a', opClash (up2 (up2 g 53 1 0) 53 0 0) x1 x2 = (v, a') → rz g' = rz a' → Kc (up2 (up2 g 53 1 0) 53 0 0) g' → P (some (I_ v)) n (W0 dy) g') : Runs miX12_clash (d + 3) [.ref 53, I_ x1, I_ x2] n (W0 dy) g P := by
  have hI1 : Inv (up2 (up2 g 53 1 0) 53 0 0) := hI
  refine wX12_clash hn ?_
  generalize (up2 (up2 g 53 1 0) 53 0 0) = a at h hI1 ⊢
  clear hI
  have hN := hI1.1
  have no2 : (x1 < 0 ∨ a 53 5 ≤ x1 ∨ x2 < 0 ∨ a 53 5 ≤ x2 ∨ x1 = x2) → Runs miX12_refuse (d + 2) [.ref 53, I_ 2] n (W0 dy) a (fun v n' S' g' => V miX12_clash (d + 3) 36 [(0, .ref 53), (1, I_ x1), (2, I_ x2)] (v.toList ++ []) n' S' g' 0 0 P) := fun c =>
    wX12_refuse hn ⟨by decide, bX12_clash_36 hn (h _ _ _ (by unfold opClash; exact if_pos c) rfl ((Kc.refl _).up (by omega)))⟩
  have bad1 : (x1 < 0 ∨ a 53 5 ≤ x1) → V miX12_clash (d + 3) 15 [(0, .ref 53), (1, I_ x1), (2, I_ x2)] [I_ 0] n (W0 dy) a 0 0 P := fun c =>
    bX12_clash_15 hn ⟨by decide, fun _ => no2 (by omega), fun q => absurd rfl q⟩
  refine wX12_isPart hn ⟨h1, fun q => bad1 (by omega), fun q => ⟨fun q2 => bad1 (by omega), fun q2 => ?_⟩⟩
  have bad2 : (x2 < 0 ∨ a 53 5 ≤ x2) → V miX12_clash (d + 3) 23 [(0, .ref 53), (1, I_ x1), (2, I_ x2)] [I_ 0] n (W0 dy) a 0 0 P := fun c =>
    bX12_clash_23 hn ⟨by decide, fun _ => no2 (by omega), fun q => absurd rfl q⟩
  refine bX12_clash_15 hn ⟨by decide, fun z => absurd z (by decide), fun _ => wX12_isPart hn ⟨h2, fun q => bad2 (by omega), fun q3 => ⟨fun q4 => bad2 (by omega), fun q4 => ?_⟩⟩⟩
  by_cases xe : x1 = x2
  · exact bX12_clash_23 hn ⟨by decide, fun z => absurd z (by decide), fun _ => ⟨h1, h2, fun z => absurd xe z, fun _ => no2 (by omega)⟩⟩
  obtain ⟨x, rfl⟩ := exN q
  obtain ⟨y, rfl⟩ := exN q3
  have eop : opClash a (x : Int) (y : Int) = if a 57 x ≠ 1 ∨ a 57 y ≠ 1 then (-1, up2 a 53 0 5) else if top (a 60) 60 x ≠ top (a 60) 60 y then (-1, up2 a 53 0 8) else if nr a x y < 0 then (-1, up2 a 53 0 9) else (if hh a x = hh a y then nr a x y else 0, a) := by
    unfold opClash; exact if_neg (by omega)
  rw [eop] at h
  clear eop no2 bad1 bad2
  have no5 : (a 57 x ≠ 1 ∨ a 57 y ≠ 1) → Runs miX12_refuse (d + 2) [.ref 53, I_ 5] n (W0 dy) a (fun v n' S' g' => V miX12_clash (d + 3) 62 [(0, .ref 53), (1, I_ (x : Int)), (2, I_ (y : Int))] (v.toList ++ []) n' S' g' 0 0 P) := fun c => by
    rw [if_pos c] at h
    exact wX12_refuse hn ⟨by decide, bX12_clash_62 hn (h _ _ _ rfl rfl ((Kc.refl _).up (by omega)))⟩
  have hF : RF a := ⟨hI1.1, hI1.dp⟩
  refine bX12_clash_23 hn ⟨by decide, fun z => absurd z (by decide), fun _ => ⟨h1, h2, fun ne => ⟨by omega, fun c => no5 (Or.inl c), fun c1 => ⟨by omega, fun c2 => ?_, fun c => no5 (Or.inr c)⟩⟩, fun e => absurd e xe⟩⟩
  have c1 : a 57 x = 1 := c1
  have c2 : a 57 y = 1 := c2
  rw [if_neg (by omega)] at h
  obtain ⟨dp, hD⟩ := hI1.dp
  have tx := top_lt hD 60 x q2
  have ty := top_lt hD 60 y q4
  refine spX12_topOf hn hF q2 (bX12_clash_68 hn (spX12_topOf hn hF q4 (bX12_clash_73 hn ⟨⟨by omega, by omega⟩, ⟨by omega, by omega⟩, fun e => ?_, fun ne => ?_⟩)))
  · have e : top (a 60) 60 x = top (a 60) 60 y := by omega
    rw [if_neg (by omega)] at h
    have two : Two a x y := ⟨⟨q2, q4, by omega⟩, ⟨c1, c2⟩, e⟩
    refine sp_near hn hI1 two fun g' k => ?_
    have nb := nr_b (a := a) x y
    have kc : Kc a g' := fun i q hi => k i q (by omega)
    refine bX12_clash_89 hn ⟨⟨by omega, by omega⟩, fun z => ?_, fun z => ?_⟩
    · rw [if_neg (by omega)] at h
      have e5 : g' 53 5 = a 53 5 := k 53 5 (by omega)
      have e60 : g' 60 = a 60 := funext fun q => k 60 q (by omega)
      have e62 : g' 62 = a 62 := funext fun q => k 62 q (by omega)
      have hF' := hF.mv e5 e60
      refine spX12_heightOf hn hF' (by omega) (bX12_clash_106 hn (spX12_heightOf hn hF' (by omega) ?_))
      rw [e60, e62]
      have bx := hh_b hI1 q2
      have by' := hh_b hI1 q4
      refine bX12_clash_111 (xs0 := hh a x) (xs1 := hh a y) hn ⟨⟨by omega, by omega⟩, ⟨by omega, by omega⟩, fun w => h _ _ _ (by rw [if_neg w]) k.rz kc, fun w => h _ _ _ (by rw [if_pos w]) k.rz kc⟩
    · rw [if_pos z] at h
      refine wX12_refuse hn ⟨by decide, bX12_clash_100 hn (h _ _ _ rfl ?_ (kc.up (by omega)))⟩
      rw [rz_f0, rz_f0, k.rz]
  · rw [if_pos (fun e => ne (by rw [e]))] at h
    exact wX12_refuse hn ⟨by decide, bX12_clash_82 hn (h _ _ _ rfl rfl ((Kc.refl _).up (by omega)))⟩
/-- with all of l gathered the class finds the last rod above both -/
theorem cs_lastAboveBoth {k0 x y : Nat} (hC : Ca n dy g a) (hI : Inv a) (hF : GF g a G k0 l) (h0 : a 60 k0 < 0) (hx : x ∈ l) (hy : y ∈ l) (h : P (some (.ref (rfx (g 3) (la (a 60) y 60 x)).toNat)) n (W0 dy) G) : Runs miX11_lastAboveBoth (d + 1) [.ref (g 3 x).toNat, .ref (g 3 y).toNat] n (W0 dy) G P := by
  have hn := hC.1
  obtain ⟨dp, hD⟩ := hI.dp
  have hN := hI.1
  have hm := hF.2.2.2.2.2.1
  obtain ⟨hyN, hya⟩ := (hm y).mp hy
  obtain ⟨hxN, hxa⟩ := (hm x).mp hx
  have hCG := hF.ca hC
  have ptY : Pt n (W0 dy) (g 3 y).toNat := (hC.2.2.2.1 y hyN).pt (hI.2.2.1 y hyN).2
  have path := (hF.2.2.2.2.2.2 y hy).2.1
  have c3 : ∀ k : Nat, (k : Int) < a 53 5 → G (g 3 k).toNat 3 = g (g 3 k).toNat 3 := fun k hk => by
    have := hC.cell hk
    exact hF.1 _ 3 (by omega) (by omega) (by omega)
  have key : ∀ f k : Nat, dp k = f → (k : Int) < a 53 5 → abv (a 60) k0 60 k = true → la (a 60) y 60 k = la (a 60) y 60 x → V miX11_lastAboveBoth (d + 1) 5 [(0, .ref (g 3 x).toNat), (1, .ref (g 3 y).toNat), (2, .ref (g (g 3 k).toNat 3).toNat)] [] n (W0 dy) G 0 0 P := by
    intro f
    induction f with
    | zero =>
      intro k hf hk ha he
      obtain ⟨u1, u2⟩ := above_b hC hI hk
      have z : a 60 k < 0 := by
        by_cases z : a 60 k < 0
        · exact z
        · have := (hD k hk).2.2.2 (by omega); omega
      rw [la_eq hD hN.2 hk, if_pos z] at he
      rw [u1 z]
      rw [← he] at h
      exact bX11_lastAboveBoth_5 hn ⟨fun _ => h, fun q => absurd q (Nat.lt_irrefl 0)⟩
    | succ f ih =>
      intro k hf hk ha he
      obtain ⟨u1, u2⟩ := above_b hC hI hk
      have z : 0 ≤ a 60 k := by
        by_cases z : a 60 k < 0
        · have := (hD k hk).2.2.1 z; omega
        · omega
      have h3 := (hD k hk).2.2.2 z
      have kk0 : k ≠ k0 := fun e => by rw [e] at z; omega
      obtain ⟨-, -, ha2⟩ := abv_dp hD hN.2 _ k rfl hk ha kk0
      obtain ⟨v1, v2, v3, v4, v5⟩ := u2 z
      rw [la_eq hD hN.2 hk, if_neg (by omega)] at he
      obtain ⟨p, ep⟩ := exN z
      rw [v2]
      rw [ep] at h3 ha2 v1 v3 v4 v5 he ⊢
      have h3 : dp k = dp p + 1 := h3
      have ha2 : abv (a 60) k0 60 p = true := ha2
      have v1 : (p : Int) < a 53 5 := v1
      have v3 : 100 ≤ g 3 p := v3
      have v5 : a 57 p = 2 ∨ a 57 p = 3 := v5
      have he : (if abv (a 60) p 60 y = true then (p : Int) else la (a 60) y 60 p) = la (a 60) y 60 x := he
      show V miX11_lastAboveBoth (d + 1) 5 [(0, .ref (g 3 x).toNat), (1, .ref (g 3 y).toNat), (2, .ref (g 3 p).toNat)] [] n (W0 dy) G 0 0 P
      have ob := (hC.2.2.2.1 p v1).ob v5
      have ptP : Pt n (W0 dy) (g 3 p).toNat := (hC.2.2.2.1 p v1).pt (hI.2.2.1 p v1).2
      have e0 : G (g 3 p).toNat 0 = (p : Int) := by
        have := hC.cell v1
        rw [hF.1 _ 0 (by omega) (by omega) (by omega)]
        exact (hC.2.2.2.1 p v1).2.1.1
      refine bX11_lastAboveBoth_5 hn ⟨fun q => by omega, fun _ => ⟨ptY, ob, wX2_bit hn ⟨ptP, ?_⟩⟩⟩
      rw [e0]
      refine bX11_lastAboveBoth_17 hn ⟨fun q => ⟨ob, ?_⟩, fun q => ?_⟩
      · have nz : ¬ abv (a 60) p 60 y = true := fun w => (hb_and (by omega)).mpr ((path p (by omega)).mpr ⟨v1, w, ha2⟩) q
        rw [if_neg nz] at he
        rw [c3 p v1]
        exact ih p (by omega) v1 ha2 he
      · have w := ((path p (by omega)).mp ((hb_and (by omega)).mp q)).2.1
        rw [if_pos w] at he
        rw [← he] at h
        unfold rfx at h
        rw [if_neg (by omega)] at h
        exact h
  refine wX11_lastAboveBoth hn ⟨(hC.2.2.2.1 x hxN).pt (hI.2.2.1 x hxN).2, ?_⟩
  rw [c3 x hxN]
  exact key _ x rfl hxN hxa rfl
theorem cs_canTouch {r : Nat} {A B : Int × Int × Int} (hC : Ca n dy G a) (hI : Inv a) (hr : (r : Int) < a 53 5) (c : a 57 r = 2 ∨ a 57 r = 3) (h9 : G 9 0 = A.2.1 ∧ G 9 1 = A.2.2) (h10 : G 10 0 = B.2.1 ∧ G 10 1 = B.2.2) (bA : (0 ≤ A.2.1 ∧ A.2.1 ≤ 60000) ∧ (0 ≤ A.2.2 ∧ A.2.2 ≤ 1000)) (bB : (0 ≤ B.2.1 ∧ B.2.1 ≤ 60000) ∧ (0 ≤ B.2.2 ∧ B.2.2 ≤ 1000)) (h0 : ¬ tch (a 59 r) A B → P (some (I_ 0)) n (W0 dy) G) (h1 : tch (a 59 r) A B → P (some (I_ 1)) n (W0 dy) G) : Runs miX11_canTouch (d + 2) [.ref 1, .ref (G 3 r).toNat] n (W0 dy) G P := by
  have hn := hC.1
  have ob := (hC.2.2.2.1 r hr).ob c
  have b := hC.cell hr
  have rb := (rod_b hI hr c).1
  have e10 : G (G 3 r).toNat 10 = a 59 r := ((hC.2.2.2.1 r hr).2.2.2.2.1 c).2.1.1
  have lA : lst A = max 0 (2 * A.2.2 - A.2.1) := rfl
  have lB : lst B = max 0 (2 * B.2.2 - B.2.1) := rfl
  have lA' : 0 ≤ lst A ∧ lst A ≤ 2000 := by rw [lA]; omega
  have lB' : 0 ≤ lst B ∧ lst B ≤ 2000 := by rw [lB]; omega
  refine wX11_canTouch hn ⟨fun q => by omega, fun _ => ⟨ob, ?_⟩⟩
  rw [h9.1, h10.1, e10]
  refine ⟨⟨by omega, by omega⟩, fun z => h0 fun w => ?_, fun z1 => wX7_least hn ⟨span_ob hn (Or.inl rfl), ?_⟩⟩
  · have := w.1; omega
  rw [h9.1, h9.2]
  refine ⟨⟨by omega, by omega⟩, ?_⟩
  rw [← lA]
  refine bX11_canTouch_33 hn ⟨ob, ⟨by omega, by omega⟩, ?_⟩
  rw [h10.1, e10]
  refine ⟨⟨by omega, by omega⟩, fun z => h0 fun w => ?_, fun z2 => wX7_least hn ⟨span_ob hn (Or.inr rfl), ?_⟩⟩
  · have := w.2.1; omega
  rw [h10.1, h10.2]
  refine ⟨⟨by omega, by omega⟩, ?_⟩
  rw [← lB]
  refine bX11_canTouch_55 hn ⟨ob, ⟨by omega, by omega⟩, ?_⟩
  rw [h9.1, e10]
  refine ⟨⟨by omega, by omega⟩, fun z => h0 fun w => ?_, fun z3 => h1 ⟨z1, z2, z3⟩⟩
  have := w.2.2; omega
theorem cs_clash_118 {x y r r5 : Nat} {G2 : Hp} {x1 x2 : Int} {A B : Int × Int × Int} (hC2 : Ca n dy G2 a) (hI : Inv a) (hx : (x : Int) < a 53 5) (hy : (y : Int) < a 53 5) (hr : (r : Int) < a 53 5) (rod : a 57 r = 2 ∨ a 57 r = 3) (w9 : G2 9 2 = A.1 ∧ G2 9 0 = A.2.1 ∧ G2 9 1 = A.2.2) (w10 : G2 10 2 = B.1 ∧ G2 10 0 = B.2.1 ∧ G2 10 1 = B.2.2) (bA : (0 ≤ A.2.1 ∧ A.2.1 ≤ 60000) ∧ (0 ≤ A.2.2 ∧ A.2.2 ≤ 1000)) (bB : (0 ≤ B.2.1 ∧ B.2.1 ≤ 60000) ∧ (0 ≤ B.2.2 ∧ B.2.2 ≤ 1000)) (h7 : (G2 (G2 3 x).toNat 7 = G2 (G2 3 y).toNat 7) ↔ hh a x = hh a y) (hA : (A.1 = 0 ∨ B.1 = 0) → P (some (I_ (-1))) n (W0 dy) (up2 G2 1 3 9)) (hB : ¬ (A.1 = 0 ∨ B.1 = 0) → P (some (I_ (if hh a x = hh a y then (if tch (a 59 r) A B then 1 else 0) else 0))) n (W0 dy) (up2 G2 1 3 0)) : V miX11_clash (d + 3) 118 [(0, .ref 1), (1, I_ x1), (2, I_ x2), (3, .ref (G2 3 x).toNat), (4, .ref (G2 3 y).toNat), (5, .ref r5), (6, .ref (G2 3 r).toNat)] [] n (W0 dy) G2 0 0 P := by
  have hn := hC2.1
  have no9 : (A.1 = 0 ∨ B.1 = 0) → Runs miX11_none (d + 2) [.ref 1, I_ 9] n (W0 dy) G2 (fun v n' S' g' => V miX11_clash (d + 3) 144 [(0, .ref 1), (1, I_ x1), (2, I_ x2), (3, .ref (G2 3 x).toNat), (4, .ref (G2 3 y).toNat), (5, .ref r5), (6, .ref (G2 3 r).toNat)] (v.toList ++ []) n' S' g' 0 0 P) := fun c =>
    wX11_none hn ⟨by decide, bX11_clash_144 hn (hA c)⟩
  refine bX11_clash_118 hn ⟨fun q => no9 (Or.inl (w9.1.symm.trans q)), fun qa => ⟨fun qb => ⟨(hC2.2.2.2.1 x hx).pt (hI.2.2.1 x hx).2, (hC2.2.2.2.1 y hy).pt (hI.2.2.1 y hy).2, ?_⟩, fun q => no9 (Or.inr (w10.1.symm.trans q))⟩⟩
  have h := hB (fun z => z.elim (fun z => qa (w9.1.trans z)) (fun z => qb (w10.1.trans z)))
  clear hA hB no9
  refine ⟨fun z => ?_, fun z => ?_⟩
  · rw [if_neg (fun w => z (h7.mpr w))] at h; exact h
  · rw [if_pos (h7.mp z)] at h
    have hC3 := hC2.st 0
    have hI3 : Inv (up2 a 53 0 0) := hI
    refine cs_canTouch (G := up2 G2 1 3 0) (a := up2 a 53 0 0) (r := r) (A := A) (B := B) hC3 hI3 hr rod ⟨w9.2.1, w9.2.2⟩ ⟨w10.2.1, w10.2.2⟩ bA bB (fun w => ?_) (fun w => ?_)
    · have w : ¬ tch (a 59 r) A B := w
      rw [if_neg w] at h
      exact bX11_clash_168 hn ⟨by decide, fun _ => h, fun q => absurd rfl q⟩
    · have w : tch (a 59 r) A B := w
      rw [if_pos w] at h
      exact bX11_clash_168 hn ⟨by decide, fun q => absurd q (by decide), fun _ => h⟩
theorem cs_clash_89 {k0 x y : Nat} {x1 x2 : Int} (hC : Ca n dy g a) (hI : Inv a) (hF : GF g a G k0 l) (h0 : a 60 k0 < 0) (hxl : x ∈ l) (hyl : y ∈ l) (two : Two a x y) (h : ∀ G2 v w, Ca n dy G2 a → Kr g G2 → (nr a x y < 0 → v = -1 ∧ w = 9) → (0 ≤ nr a x y → v = (if hh a x = hh a y then nr a x y else 0) ∧ w = 0) → P (some (I_ v)) n (W0 dy) (up2 G2 1 3 w)) : V miX11_clash (d + 3) 89 [(0, .ref 1), (1, I_ x1), (2, I_ x2), (3, .ref (g 3 x).toNat), (4, .ref (g 3 y).toNat), (5, .ref (g 3 k0).toNat)] [] n (W0 dy) G 0 0 P := by
  have hn := hC.1
  obtain ⟨hx, hy, -⟩ := two.1
  have nx : (g 3 x).toNat ≠ 9 ∧ (g 3 x).toNat ≠ 10 := by have := hC.cell hx; omega
  have ny : (g 3 y).toNat ≠ 9 ∧ (g 3 y).toNat ≠ 10 := by have := hC.cell hy; omega
  have hCG := hF.ca hC
  have hKG := hF.kr
  have e3 : G 3 = g 3 := funext fun q => hF.g3 q
  have f7 : (G (g 3 x).toNat 7 = G (g 3 y).toNat 7) ↔ hh a x = hh a y := by
    rw [(hF.2.2.2.2.2.2 x hxl).1, (hF.2.2.2.2.2.2 y hyl).1]
    unfold rh hh; omega
  obtain ⟨r, r1, r2, r3, r4, r5, r6, r7⟩ := two.la hI
  have eA : mAB a x y = msr a (r : Int) 60 x (1, 0, 0) := by unfold mAB; rw [r1]
  have eB : mBA a x y = msr a (r : Int) 60 y (1, 0, 0) := by unfold mBA; rw [r1]
  have bA := msr_b0 hI (s := (r : Int)) hx
  have bB := msr_b0 hI (s := (r : Int)) hy
  have e59 : tc a x y = if tch (a 59 r) (mAB a x y) (mBA a x y) then 1 else 0 := by unfold tc; rw [r1]; rfl
  have un : nr a x y = if (mAB a x y).1 = 0 ∨ (mBA a x y).1 = 0 then -1 else tc a x y := rfl
  refine bX11_clash_89 hn (cs_lastAboveBoth hC hI hF h0 hxl hyl (bX11_clash_95 hn ?_))
  rw [r1]
  have er : (rfx (g 3) (r : Int)).toNat = (g 3 r).toNat := by unfold rfx; rw [if_neg (by omega)]; rfl
  have hr1 : -1 ≤ (r : Int) ∧ (r : Int) < a 53 5 := ⟨by omega, r2⟩
  clear r1 r3 r4 r5 r6
  rw [← e3]
  refine cs_measure hCG hI (Or.inl rfl) hx hr1 fun G1 q1 m1 => bX11_clash_107 hn ?_
  have hC1 : Ca n dy G1 a := hCG.keep fun i q hi => q1 i q (cl_ne (Or.inl rfl) hi)
  have e31 : G1 3 = G 3 := funext fun q => q1 3 q (by decide)
  rw [← e31]
  refine cs_measure hC1 hI (Or.inr rfl) hy hr1 fun G2 q2 m2 => ?_
  have hC2 : Ca n dy G2 a := hC1.keep fun i q hi => q2 i q (cl_ne (Or.inr rfl) hi)
  have e32 : G2 3 = g 3 := (funext fun q => q2 3 q (by decide)).trans (e31.trans e3)
  rw [e31, e3, er, ← e32]
  rw [← eA] at m1 bA
  rw [← eB] at m2 bB
  have kr2 : Kr g G2 := fun i q hi => (q2 i q (by omega)).trans ((q1 i q (by omega)).trans (hKG i q hi))
  have w9 : G2 9 2 = (mAB a x y).1 ∧ G2 9 0 = (mAB a x y).2.1 ∧ G2 9 1 = (mAB a x y).2.2 := by
    rw [q2 9 2 (by decide), q2 9 0 (by decide), q2 9 1 (by decide)]; exact m1
  have h7 : (G2 (G2 3 x).toNat 7 = G2 (G2 3 y).toNat 7) ↔ hh a x = hh a y := by
    rw [e32, q2 _ _ nx.2, q1 _ _ nx.1, q2 _ _ ny.2, q1 _ _ ny.1]; exact f7
  clear q1 q2 m1 hCG hC1 hKG hF f7 e31 e3 eA eB
  generalize mAB a x y = A at *
  generalize mBA a x y = B at *
  have tb := tc_b (a := a) x y
  refine cs_clash_118 hC2 hI hx hy r2 r7 w9 m2 bA.2 bB.2 h7 (fun c => ?_) (fun c => ?_)
  · rw [if_pos c] at un
    exact h G2 _ _ hC2 kr2 (fun _ => ⟨rfl, rfl⟩) (fun z => by rw [un] at z; omega)
  · rw [if_neg c] at un
    refine h G2 _ _ hC2 kr2 (fun z => ?_) (fun z => ⟨?_, rfl⟩)
    · rw [un] at z; clear un e59 h h7 bA bB m2 w9; omega
    · rw [un, e59]
theorem cs_clash {x1 x2 : Int} (hC : Ca n dy g a) (hI : Inv a) (h1 : i3 x1) (h2 : i3 x2) (h : ∀ v a' g', opClash (up2 a 53 0 0) x1 x2 = (v, a') → Ca n dy g' a' → Kr g g' → P (some (I_ v)) n (W0 dy) g') : Runs miX11_clash (d + 3) [.ref 1, I_ x1, I_ x2] n (W0 dy) g P := by
  have hn := hC.1
  have hN := hI.1
  have no2 : (x1 < 0 ∨ a 53 5 ≤ x1 ∨ x2 < 0 ∨ a 53 5 ≤ x2 ∨ x1 = x2) → ∀ r3 r4 : Nat, Runs miX11_none (d + 2) [.ref 1, I_ 2] n (W0 dy) g (fun v n' S' g' => V miX11_clash (d + 3) 33 [(0, .ref 1), (1, I_ x1), (2, I_ x2), (3, .ref r3), (4, .ref r4)] (v.toList ++ []) n' S' g' 0 0 P) := fun c r3 r4 =>
    wX11_none hn ⟨by decide, bX11_clash_33 hn (h _ _ _ (by unfold opClash; exact if_pos c) (hC.st2 0 2) ((Kr.refl g).up (by omega)))⟩
  refine wX11_clash hn (cs_partAt hC hI h1 ⟨fun c => bX11_clash_5 hn (cs_partAt hC hI h2 ⟨fun _ => bX11_clash_11 hn ⟨fun _ => no2 (by omega) _ _, fun q => absurd q (Nat.lt_irrefl 0)⟩, fun _ _ => bX11_clash_11 hn ⟨fun _ => no2 (by omega) _ _, fun q => absurd q (Nat.lt_irrefl 0)⟩⟩), fun c1 c2 => ?_⟩)
  obtain ⟨x, rfl⟩ := exN c1
  have hx : (x : Int) < a 53 5 := c2
  have bx := hC.cell hx
  show V miX11_clash (d + 3) 5 [(0, .ref 1), (1, I_ (x : Int)), (2, I_ x2)] [.ref (g 3 x).toNat] n (W0 dy) g 0 0 P
  refine bX11_clash_5 hn (cs_partAt hC hI h2 ⟨fun c => bX11_clash_11 hn ⟨fun q => by omega, fun _ => ⟨fun _ => no2 (by omega) _ _, fun q => absurd q (Nat.lt_irrefl 0)⟩⟩, fun c3 c4 => ?_⟩)
  obtain ⟨y, rfl⟩ := exN c3
  have hy : (y : Int) < a 53 5 := c4
  have by' := hC.cell hy
  show V miX11_clash (d + 3) 11 [(0, .ref 1), (1, I_ (x : Int)), (2, I_ (y : Int)), (3, .ref (g 3 x).toNat)] [.ref (g 3 y).toNat] n (W0 dy) g 0 0 P
  refine bX11_clash_11 hn ⟨fun q => by omega, fun _ => ⟨fun q => by omega, fun _ => ⟨fun ne => ⟨(hC.2.2.2.1 x hx).pt (hI.2.2.1 x hx).2, ?_⟩, fun e => no2 (by have := (hC.ne hx hy).mp e; omega) _ _⟩⟩⟩
  have xy : x ≠ y := fun e => ne (by rw [e])
  have k1 : g (g 3 x).toNat 1 = a 57 x := (hC.2.2.2.1 x hx).2.1.2.1
  have k2 : g (g 3 y).toNat 1 = a 57 y := (hC.2.2.2.1 y hy).2.1.2.1
  rw [k1, k2]
  have eop : opClash (up2 a 53 0 0) (x : Int) (y : Int) = if a 57 x ≠ 1 ∨ a 57 y ≠ 1 then (-1, up2 (up2 a 53 0 0) 53 0 5) else if top (a 60) 60 x ≠ top (a 60) 60 y then (-1, up2 (up2 a 53 0 0) 53 0 8) else if nr a x y < 0 then (-1, up2 (up2 a 53 0 0) 53 0 9) else (if hh a x = hh a y then nr a x y else 0, up2 a 53 0 0) := by
    rw [← nr_st a 0]
    unfold opClash; exact if_neg (by show ¬ ((x : Int) < 0 ∨ a 53 5 ≤ (x : Int) ∨ (y : Int) < 0 ∨ a 53 5 ≤ (y : Int) ∨ (x : Int) = (y : Int)); omega)
  rw [eop] at h
  clear eop no2
  have no5 : (a 57 x ≠ 1 ∨ a 57 y ≠ 1) → Runs miX11_none (d + 2) [.ref 1, I_ 5] n (W0 dy) g (fun v n' S' g' => V miX11_clash (d + 3) 56 [(0, .ref 1), (1, I_ (x : Int)), (2, I_ (y : Int)), (3, .ref (g 3 x).toNat), (4, .ref (g 3 y).toNat)] (v.toList ++ []) n' S' g' 0 0 P) := fun c => by
    rw [if_pos c] at h
    exact wX11_none hn ⟨by decide, bX11_clash_56 hn (h _ _ _ rfl (hC.st2 0 5) ((Kr.refl g).up (by omega)))⟩
  refine ⟨fun c => no5 (Or.inl c), fun c1 => ⟨(hC.2.2.2.1 y hy).pt (hI.2.2.1 y hy).2, fun c2 => ?_, fun c => no5 (Or.inr c)⟩⟩
  clear no5
  rw [if_neg (fun z => z.elim (fun z => z c1) (fun z => z c2))] at h
  obtain ⟨dp, hD⟩ := hI.dp
  have tx := top_lt hD 60 x hx
  have ty := top_lt hD 60 y hy
  refine cs_topOf hC hI hx (bX11_clash_61 hn (cs_topOf hC hI hy (bX11_clash_70 hn ⟨fun e => ?_, fun ne => ?_⟩)))
  · have e : top (a 60) 60 x = top (a 60) 60 y := (hC.ne tx ty).mp e
    rw [if_neg (fun z => z e)] at h
    have two : Two a x y := ⟨⟨hx, hy, xy⟩, ⟨c1, c2⟩, e⟩
    refine cs_gather hC hI tx fun G l hF => ?_
    have hm := hF.2.2.2.2.2.1
    have hxl : x ∈ l := (hm x).mpr ⟨hx, abv_top hD hN.2 _ x rfl hx⟩
    have hyl : y ∈ l := (hm y).mpr ⟨hy, by rw [e]; exact abv_top hD hN.2 _ y rfl hy⟩
    refine cs_clash_89 hC hI hF (top_on hD hN.2 _ x rfl hx) hxl hyl two fun G2 v w hC2 kr2 z1 z2 => ?_
    by_cases z : nr a x y < 0
    · rw [if_pos z] at h
      obtain ⟨rfl, rfl⟩ := z1 z
      exact h _ _ _ rfl (hC2.st2 0 9) (kr2.up (by omega))
    · rw [if_neg z] at h
      obtain ⟨rfl, rfl⟩ := z2 (Int.not_lt.mp z)
      exact h _ _ _ rfl (hC2.st 0) (kr2.up (by omega))
  · have ne : top (a 60) 60 x ≠ top (a 60) 60 y := fun e => ne (by rw [e])
    rw [if_pos ne] at h
    exact wX11_none hn ⟨by decide, bX11_clash_79 hn (h _ _ _ rfl (hC.st2 0 8) ((Kr.refl g).up (by omega)))⟩
theorem la_rz {g g1 : Hp} (h : rz g1 = rz g) : g1 60 = g 60 := rz_row (i := 60) h (fun _ => rfl)
theorem nr_rz {g g1 : Hp} (h : rz g1 = rz g) (x y : Nat) : nr g1 x y = nr g x y := by
  unfold nr tc mAB mBA
  rw [la_rz h, msr_cg h, msr_cg h, rz_row (i := 59) h (fun _ => rfl)]
theorem hh_rz {g g1 : Hp} (h : rz g1 = rz g) (x : Nat) : hh g1 x = hh g x := by
  unfold hh
  rw [la_rz h, rz_row (i := 62) h (fun _ => rfl)]
theorem opClash_cg {g g1 : Hp} (h : rz g1 = rz g) (x1 x2 : Int) : (opClash g1 x1 x2).1 = (opClash g x1 x2).1 ∧ rz (opClash g1 x1 x2).2 = rz (opClash g x1 x2).2 := by
  have st : ∀ T : Int, rz (up2 g1 53 0 T) = rz (up2 g 53 0 T) := fun T => by rw [rz_f0, rz_f0, h]
  unfold opClash
  rw [nr_rz h, hh_rz h, hh_rz h, la_rz h, rz_of h (i := 53) (q := 5) rfl, rz_of h (i := 57) (q := x1.toNat) rfl, rz_of h (i := 57) (q := x2.toNat) rfl]
  split
  · exact ⟨rfl, st _⟩
  · split
    · exact ⟨rfl, st _⟩
    · split
      · exact ⟨rfl, st _⟩
      · split
        · exact ⟨rfl, st _⟩
        · exact ⟨rfl, h⟩
theorem inv_clash {a : Hp} (hI : Inv a) (x1 x2 : Int) : Inv (opClash a x1 x2).2 := by
  unfold opClash
  split
  · exact hI.st _
  · split
    · exact hI.st _
    · split
      · exact hI.st _
      · split
        · exact hI.st _
        · exact hI
end Clash
