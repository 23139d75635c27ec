/-! POUR: the class -/
section Pour3
variable {d n : Nat} {dy : Nat → Shp} {g a G : Hp} {P : Pst}
theorem Ca.pour {y1 y2 y3 y4 m : Nat} (hC : Ca n dy g a) (hI : Inv a) (h1 : y1 < 6) (h3 : y3 < 6) (t1 : 0 ≤ a 55 y1) (t3 : 0 ≤ a 55 y3) (b1 : ((y2 + m : Nat) : Int) ≤ a 55 y1) (b3 : ((y4 + m : Nat) : Int) ≤ a 55 y3) : Ca n dy (up2 (cpG g (41 + 2 * y1 + 1) y2 (41 + 2 * y3 + 1) y4 m) 1 3 0) (mv6 (up2 a 53 0 0) (16 * y1 + y2) (16 * y3 + y4) m) := by
  have k1 : a 55 y1 ≤ 16 := by
    rcases hI.2.1 y1 h1 with z | z <;> omega
  have k3 : a 55 y3 ≤ 16 := by
    rcases hI.2.1 y3 h3 with z | z <;> omega
  have c1 := (hC.tk hI h1).resolve_left (fun z => by omega)
  have c3 := (hC.tk hI h3).resolve_left (fun z => by omega)
  refine Ca.tr hC ⟨?_, rfl, ?_⟩ (fun i q i1 i2 => ?_) (fun i q i1 i2 i3 i4 i5 => ?_) (fun s hs => ?_)
  · rw [up2_k, if_neg (by omega), cpG_i (by omega)]
  · rw [up2_k, if_neg (by omega), cpG_i (by omega)]
  · rw [up2_i i1, cpG_i (by omega)]
  · unfold mv6
    rw [if_neg fun z => i4 z.1, up2_ap, if_neg (by omega)]
  · have e55 : mv6 (up2 a 53 0 0) (16 * y1 + y2) (16 * y3 + y4) m 55 s = a 55 s := rfl
    have e54 : mv6 (up2 a 53 0 0) (16 * y1 + y2) (16 * y3 + y4) m 54 s = a 54 s := rfl
    have hs' := hC.2.2.1 s hs
    unfold CT
    rw [e55, e54, up2_i (by omega), up2_i (by omega), up2_i (by omega), cpG_i (by omega), cpG_i (by omega), cpG_i (by omega)]
    refine ⟨hs'.1, ?_⟩
    rcases hs'.2 with z | ⟨z1, z2, z3, z4⟩
    · exact Or.inl z
    · refine Or.inr ⟨z1, z2, z3, fun q hq => ?_⟩
      have hs16 : a 55 s ≤ 16 := by
        rcases hI.2.1 s hs with z | z <;> omega
      have z4' := z4 q hq
      rw [up2_i (by omega)]
      have em : mv6 (up2 a 53 0 0) (16 * y1 + y2) (16 * y3 + y4) m 56 (16 * s + q) = if 16 * y3 + y4 ≤ 16 * s + q ∧ 16 * s + q < 16 * y3 + y4 + m then a 56 (16 * y1 + y2 + (16 * s + q - (16 * y3 + y4))) else a 56 (16 * s + q) := by
        unfold mv6
        by_cases w : 16 * y3 + y4 ≤ 16 * s + q ∧ 16 * s + q < 16 * y3 + y4 + m
        · rw [if_pos ⟨rfl, w⟩, if_pos w]; rfl
        · rw [if_neg fun z => w z.2, if_neg w]; rfl
      rw [em]
      unfold cpG
      by_cases e : s = y3
      · subst e
        by_cases w : y4 ≤ q ∧ q < y4 + m
        · rw [if_pos ⟨by omega, w⟩, if_pos (by omega), show 41 + 2 * y1 + 1 = 42 + 2 * y1 by omega, c1.2.2.2.2 (y2 + (q - y4)) (by omega)]
          congr 1
          omega
        · rw [if_neg fun z => w z.2, if_neg (by omega)]; exact z4'
      · rw [if_neg (by omega), if_neg (by omega)]; exact z4'
theorem cs_pour {x1 x2 x3 x4 x5 : Int} (hC : Ca n dy g a) (hI : Inv a) (h1 : i3 x1) (h2 : i3 x2) (h3 : i3 x3) (h4 : i3 x4) (h5 : i3 x5) (h : ∀ v a' g', opPour (up2 a 53 0 0) x1 x2 x3 x4 x5 = (v, a') → Ca n dy g' a' → Kr g g' → P (some (I_ v)) n (W0 dy) g') : Runs miX11_pour (d + 1) [.ref 1, I_ x1, I_ x2, I_ x3, I_ x4, I_ x5] n (W0 dy) g P := by
  have hn := hC.1
  have no : ∀ T : Int, i3 T → T ≠ 0 → prI a x1 x2 x3 x4 x5 = T → ∀ (Q : Pst), (∀ G, P (some (I_ 0)) n (W0 dy) G → Q (some (I_ 0)) n (W0 dy) G) → Runs miX11_refuses d [.ref 1, I_ T] n (W0 dy) g Q := fun T hT3 hT0 e Q hQ => by
    have e2 : opPour (up2 a 53 0 0) x1 x2 x3 x4 x5 = (0, up2 (up2 a 53 0 0) 53 0 T) := by
      have e' : prI (up2 a 53 0 0) x1 x2 x3 x4 x5 = T := e
      unfold opPour
      rw [e']; exact if_pos hT0
    exact wX11_refuses hn ⟨hT3, hQ _ (h _ _ _ e2 (hC.st2 0 T) ((Kr.refl g).up (by omega)))⟩
  have un : prI a x1 x2 x3 x4 x5 = if x1 < 0 ∨ 6 ≤ x1 ∨ x3 < 0 ∨ 6 ≤ x3 then 1 else if a 55 x1.toNat < 0 ∨ a 55 x3.toNat < 0 then 3 else if a 54 x1.toNat ≠ a 54 x3.toNat then 12 else if x5 < 0 then 6 else if x2 < 0 ∨ x4 < 0 ∨ a 55 x1.toNat < x2 + x5 ∨ a 55 x3.toNat < x4 + x5 then 4 else 0 := rfl
  have n1 : (x1 < 0 ∨ 6 ≤ x1 ∨ x3 < 0 ∨ 6 ≤ x3) → ∀ r6 r7 : Nat, Runs miX11_refuses d [.ref 1, I_ 1] n (W0 dy) g (fun v n' S' g' => V miX11_pour (d + 1) 29 [(0, .ref 1), (1, I_ x1), (2, I_ x2), (3, I_ x3), (4, I_ x4), (5, I_ x5), (6, .ref r6), (7, .ref r7)] (v.toList ++ []) n' S' g' 0 0 P) := fun c r6 r7 => no 1 (by decide) (by decide) (by rw [un, if_pos c]) _ fun G hp => bX11_pour_29 hn ⟨Or.inl rfl, hp⟩
  refine wX11_pour hn (cs_trayAt hC h1 ⟨fun c => bX11_pour_5 hn (cs_trayAt hC h3 ⟨fun _ => ?_, fun _ _ => ?_⟩), fun c1 c2 => bX11_pour_5 hn (cs_trayAt hC h3 ⟨fun c => ?_, fun c3 c4 => ?_⟩)⟩)
  · exact bX11_pour_12 hn ⟨fun _ => n1 (by omega) _ _, fun z => absurd z (by omega)⟩
  · exact bX11_pour_12 hn ⟨fun _ => n1 (by omega) _ _, fun z => absurd z (by omega)⟩
  · exact bX11_pour_12 hn ⟨fun z => absurd z (by omega), fun _ => ⟨fun z => absurd z (by omega), fun _ => n1 (by omega) _ _⟩⟩
  · rw [if_neg (by omega)] at un
    clear n1
    obtain ⟨y1, rfl⟩ := exN c1
    obtain ⟨y3, rfl⟩ := exN c3
    have l1 : y1 < 6 := by omega
    have l3 : y3 < 6 := by omega
    have tr1 := tr_ok (dy := dy) hn l1
    have tr3 := tr_ok (dy := dy) hn l3
    have n3 : (a 55 y1 < 0 ∨ a 55 y3 < 0) → ∀ r6 r7 : Nat, Runs miX11_refuses d [.ref 1, I_ 3] n (W0 dy) g (fun v n' S' g' => V miX11_pour (d + 1) 51 [(0, .ref 1), (1, I_ (y1 : Int)), (2, I_ x2), (3, I_ (y3 : Int)), (4, I_ x4), (5, I_ x5), (6, .ref r6), (7, .ref r7)] (v.toList ++ []) n' S' g' 0 0 P) := fun c r6 r7 => no 3 (by decide) (by decide) (un.trans (if_pos c)) _ fun G hp => bX11_pour_51 hn ⟨Or.inl rfl, hp⟩
    show V miX11_pour (d + 1) 12 [(0, .ref 1), (1, I_ (y1 : Int)), (2, I_ x2), (3, I_ (y3 : Int)), (4, I_ x4), (5, I_ x5), (6, .ref (41 + 2 * y1))] [.ref (41 + 2 * y3)] n (W0 dy) g 0 0 P
    refine bX11_pour_12 hn ⟨fun z => absurd z (by omega), fun _ => ⟨fun _ => ⟨tr1, ?_⟩, fun z => absurd z (by omega)⟩⟩
    rcases hC.tk hI l1 with ⟨k1, k2⟩ | ⟨k1, k2, k3, k4, k5⟩
    · exact wX9_isMissing hn ⟨tr1, fun z => absurd k2 z, fun _ => bX11_pour_35 hn ⟨by decide, fun _ => n3 (Or.inl (by omega)) _ _, fun z => absurd z (by decide)⟩⟩
    · refine wX9_isMissing hn ⟨tr1, fun _ => bX11_pour_35 hn ⟨by decide, fun z => absurd rfl z, fun _ => ⟨tr3, ?_⟩⟩, fun z => by omega⟩
      rcases hC.tk hI l3 with ⟨j1, j2⟩ | ⟨j1, j2, j3, j4, j5⟩
      · exact wX9_isMissing hn ⟨tr3, fun z => absurd j2 z, fun _ => bX11_pour_43 hn ⟨by decide, fun z => absurd z (by decide), fun _ => n3 (Or.inr (by omega)) _ _⟩⟩
      · have un := un.trans (if_neg (show ¬ (a 55 y1 < 0 ∨ a 55 y3 < 0) by omega))
        clear n3
        refine wX9_isMissing hn ⟨tr3, fun _ => bX11_pour_43 hn ⟨by decide, fun _ => ⟨tr1, tr3, fun c7 => ⟨h5, fun c8 => ?_, fun c => ?_⟩, fun c => ?_⟩, fun z => absurd rfl z⟩, fun z => by omega⟩
        · have un := (un.trans (if_neg (show ¬ (a 54 y1 ≠ a 54 y3) from fun z => z (by omega)))).trans (if_neg (by omega))
          have n4 : (x2 < 0 ∨ x4 < 0 ∨ a 55 y1 < x2 + x5 ∨ a 55 y3 < x4 + x5) → ∀ r6 r7 : Nat, Runs miX11_refuses d [.ref 1, I_ 4] n (W0 dy) g (fun v n' S' g' => V miX11_pour (d + 1) 112 [(0, .ref 1), (1, I_ (y1 : Int)), (2, I_ x2), (3, I_ (y3 : Int)), (4, I_ x4), (5, I_ x5), (6, .ref r6), (7, .ref r7)] (v.toList ++ []) n' S' g' 0 0 P) := fun c r6 r7 => no 4 (by decide) (by decide) (un.trans (if_pos c)) _ fun G hp => bX11_pour_112 hn ⟨Or.inl rfl, hp⟩
          have f1 : (x2 < 0 ∨ a 55 y1 < x2 + x5) → V miX11_pour (d + 1) 92 [(0, .ref 1), (1, I_ (y1 : Int)), (2, I_ x2), (3, I_ (y3 : Int)), (4, I_ x4), (5, I_ x5), (6, .ref (41 + 2 * y1)), (7, .ref (41 + 2 * y3))] [I_ 0] n (W0 dy) g 0 0 P := fun c => bX11_pour_92 hn ⟨by decide, fun _ => n4 (by omega) _ _, fun z => absurd rfl z⟩
          refine wX9_hasFrom hn ⟨h2, fun z => f1 (Or.inl z), fun c9 => ⟨h5, fun z => absurd c8 (by omega), fun _ => ⟨tr1, ⟨by omega, by omega⟩, fun z => f1 (Or.inr (by omega)), fun c10 => ?_⟩⟩⟩
          clear f1
          refine bX11_pour_92 hn ⟨by decide, fun z => absurd z (by decide), fun _ => ⟨tr3, ?_⟩⟩
          have f2 : (x4 < 0 ∨ a 55 y3 < x4 + x5) → V miX11_pour (d + 1) 104 [(0, .ref 1), (1, I_ (y1 : Int)), (2, I_ x2), (3, I_ (y3 : Int)), (4, I_ x4), (5, I_ x5), (6, .ref (41 + 2 * y1)), (7, .ref (41 + 2 * y3))] [I_ 0] n (W0 dy) g 0 0 P := fun c => bX11_pour_104 hn ⟨by decide, fun z => absurd rfl z, fun _ => n4 (by omega) _ _⟩
          refine wX9_hasFrom hn ⟨h4, fun z => f2 (Or.inl z), fun c11 => ⟨h5, fun z => absurd c8 (by omega), fun _ => ⟨tr3, ⟨by omega, by omega⟩, fun z => f2 (Or.inr (by omega)), fun c12 => ?_⟩⟩⟩
          clear f2 n4
          have un := un.trans (if_neg (show ¬ (x2 < 0 ∨ x4 < 0 ∨ a 55 y1 < x2 + x5 ∨ a 55 y3 < x4 + x5) by omega))
          refine bX11_pour_104 hn ⟨by decide, fun _ => ⟨tr1, tr3, ⟨c9, c11, c8, by omega, by omega⟩, ?_⟩, fun z => absurd z (by decide)⟩
          obtain ⟨y2, rfl⟩ := exN c9
          obtain ⟨y4, rfl⟩ := exN c11
          obtain ⟨m, rfl⟩ := exN c8
          refine bX11_pour_131 hn (wX11_allows hn (bX11_pour_135 hn ⟨Or.inr rfl, h _ _ _ ?_ (hC.pour hI l1 l3 k1.1 j1.1 (by omega) (by omega)) ?_⟩))
          · have un' : prI (up2 a 53 0 0) (y1 : Int) (y2 : Int) (y3 : Int) (y4 : Int) (m : Int) = 0 := un
            unfold opPour
            rw [un']; exact if_neg (fun z => z rfl)
          · refine Kr.up (fun i q hi => cpG_i ?_) (by omega)
            omega
        · exact no 6 (by decide) (by decide) ((un.trans (if_neg (show ¬ (a 54 y1 ≠ a 54 y3) from fun z => z (by omega)))).trans (if_pos c)) _ fun G hp => bX11_pour_83 hn ⟨Or.inl rfl, hp⟩
        · exact no 12 (by decide) (by decide) (un.trans (if_pos (show a 54 y1 ≠ a 54 y3 by omega))) _ fun G hp => bX11_pour_71 hn ⟨Or.inl rfl, hp⟩
end Pour3
