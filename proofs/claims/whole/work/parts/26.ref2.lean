/-! THE REFERENCE: swap, cut; what its methods depend on -/
theorem rs_swap {d n : Nat} {dy : Nat → Shp} {g : Hp} {P : Pst} {x1 : Int} (hn : 100 ≤ n) (hF : RF g) (hL : ∀ k : Nat, (k : Int) < g 53 5 → g 66 k < 60 ∧ g 67 k < 60) (h1 : i3 x1) (h : ∀ v g', opSwap (up2 g 53 1 0) x1 = (v, g') → P (some (I_ v)) n (W0 dy) g') : Runs miX12_swap (d + 2) [.ref 53, I_ x1] n (W0 dy) g P := by
  have hF1 : RF (up2 g 53 1 0) := hF
  have hL1 : ∀ k : Nat, (k : Int) < (up2 g 53 1 0) 53 5 → (up2 g 53 1 0) 66 k < 60 ∧ (up2 g 53 1 0) 67 k < 60 := hL
  refine wX12_swap hn ?_
  generalize (up2 g 53 1 0) = g1 at h hF1 hL1 ⊢
  clear hF hL
  have hN := hF1.1
  have hb := rodI_b g1 x1
  have hL2 := hL1 x1.toNat
  refine spX12_rodded hn hN.2 h1 ?_
  unfold opSwap at h
  generalize rodI g1 x1 = y at h hb ⊢
  refine bX12_swap_11 hn ?_
  simp only [up2_s]
  refine ⟨by first | omega | assumption, ?_⟩
  refine ⟨?_, ?_⟩
  · intro q1
    refine ⟨by first | omega | assumption, ?_⟩
    refine ⟨?_, ?_⟩
    · intro q2
      refine ⟨?_, ?_⟩
      · intro q3
        first | omega | (refine h _ _ ?_; (first | (have e0 : y = 0 := (by omega); subst e0) | skip); (repeat' split) <;> first | rfl | (exfalso; omega))
      · intro q4
        refine ⟨by first | omega | assumption, ?_⟩
        first | omega | (refine h _ _ ?_; (first | (have e0 : y = 0 := (by omega); subst e0) | skip); (repeat' split) <;> first | rfl | (exfalso; omega))
    · intro q5
      refine ⟨by first | omega | assumption, ?_⟩
      refine ⟨?_, ?_⟩
      · intro q6
        first | omega | (refine h _ _ ?_; (first | (have e0 : y = 0 := (by omega); subst e0) | skip); (repeat' split) <;> first | rfl | (exfalso; omega))
      · intro q7
        refine ⟨by first | omega | assumption, ?_⟩
        first | omega | (refine h _ _ ?_; (first | (have e0 : y = 0 := (by omega); subst e0) | skip); (repeat' split) <;> first | rfl | (exfalso; omega))
  · intro q8
    first | omega | (refine h _ _ ?_; (first | (have e0 : y = 0 := (by omega); subst e0) | skip); (repeat' split) <;> first | rfl | (exfalso; omega))
/-- the ones that fewest() kept, taken off one by one -/
def cutF (g : Hp) : Nat → Int × Hp
  | 0 => (0, g)
  | i + 1 => if (cutF g i).2 60 (g 77 i).toNat < 0 then cutF g i else ((cutF g i).1 + 1, off (cutF g i).2 (g 77 i).toNat)
theorem up53_66 {g : Hp} {z : Int} {k : Nat} : up2 g 53 0 z 66 k = g 66 k := rfl
theorem up53_67 {g : Hp} {z : Int} {k : Nat} : up2 g 53 0 z 67 k = g 67 k := rfl
theorem rz_row {g g1 : Hp} {i : Nat} (h : rz g1 = rz g) (hi : ∀ q, rl i q = true) : g1 i = g i := funext fun q => rz_of h (hi q)
theorem Inv.cg {g g1 : Hp} (h : rz g1 = rz g) (hI : Inv g) : Inv g1 := by
  have e54 := rz_row (i := 54) h (fun _ => rfl)
  have e55 := rz_row (i := 55) h (fun _ => rfl)
  have e56 := rz_row (i := 56) h (fun _ => rfl)
  have e57 := rz_row (i := 57) h (fun _ => rfl)
  have e58 := rz_row (i := 58) h (fun _ => rfl)
  have e59 := rz_row (i := 59) h (fun _ => rfl)
  have e60 := rz_row (i := 60) h (fun _ => rfl)
  have e61 := rz_row (i := 61) h (fun _ => rfl)
  have e62 := rz_row (i := 62) h (fun _ => rfl)
  have e63 := rz_row (i := 63) h (fun _ => rfl)
  have e64 := rz_row (i := 64) h (fun _ => rfl)
  have e65 := rz_row (i := 65) h (fun _ => rfl)
  have e66 := rz_row (i := 66) h (fun _ => rfl)
  have e67 := rz_row (i := 67) h (fun _ => rfl)
  have e68 := rz_row (i := 68) h (fun _ => rfl)
  have e69 := rz_row (i := 69) h (fun _ => rfl)
  have e70 := rz_row (i := 70) h (fun _ => rfl)
  have e77 := rz_row (i := 77) h (fun _ => rfl)
  have e78 := rz_row (i := 78) h (fun _ => rfl)
  have f0 := rz_of h (i := 53) (q := 0) rfl
  have f5 := rz_of h (i := 53) (q := 5) rfl
  have f26 := rz_of h (i := 53) (q := 26) rfl
  have f29 := rz_of h (i := 53) (q := 29) rfl
  unfold Inv PI KI TI at hI ⊢
  simp only [e54, e55, e56, e57, e58, e59, e60, e61, e62, e63, e64, e65, e66, e67, e68, e69, e70, e77, e78, f0, f5, f26, f29]
  exact hI
theorem Ca.cg {n : Nat} {dy : Nat → Shp} {g a a1 : Hp} (h : rz a1 = rz a) (hC : Ca n dy g a) : Ca n dy g a1 := by
  have e54 := rz_row (i := 54) h (fun _ => rfl)
  have e55 := rz_row (i := 55) h (fun _ => rfl)
  have e56 := rz_row (i := 56) h (fun _ => rfl)
  have e57 := rz_row (i := 57) h (fun _ => rfl)
  have e58 := rz_row (i := 58) h (fun _ => rfl)
  have e59 := rz_row (i := 59) h (fun _ => rfl)
  have e60 := rz_row (i := 60) h (fun _ => rfl)
  have e61 := rz_row (i := 61) h (fun _ => rfl)
  have e62 := rz_row (i := 62) h (fun _ => rfl)
  have e63 := rz_row (i := 63) h (fun _ => rfl)
  have e64 := rz_row (i := 64) h (fun _ => rfl)
  have e65 := rz_row (i := 65) h (fun _ => rfl)
  have e66 := rz_row (i := 66) h (fun _ => rfl)
  have e67 := rz_row (i := 67) h (fun _ => rfl)
  have e68 := rz_row (i := 68) h (fun _ => rfl)
  have e69 := rz_row (i := 69) h (fun _ => rfl)
  have e70 := rz_row (i := 70) h (fun _ => rfl)
  have e77 := rz_row (i := 77) h (fun _ => rfl)
  have e78 := rz_row (i := 78) h (fun _ => rfl)
  have f0 := rz_of h (i := 53) (q := 0) rfl
  have f5 := rz_of h (i := 53) (q := 5) rfl
  have f26 := rz_of h (i := 53) (q := 26) rfl
  have f29 := rz_of h (i := 53) (q := 29) rfl
  unfold Ca CT CP CQ mdl at hC ⊢
  simp only [e54, e55, e56, e57, e58, e59, e60, e61, e62, e63, e64, e65, e66, e67, e68, e69, e70, e77, e78, f0, f5, f26, f29]
  exact hC
theorem opHang_cg {g g1 : Hp} (h : rz g1 = rz g) (x1 x2 x3 x4 : Int) : (opHang g1 x1 x2 x3 x4).1 = (opHang g x1 x2 x3 x4).1 ∧ rz (opHang g1 x1 x2 x3 x4).2 = rz (opHang g x1 x2 x3 x4).2 := by
  have e54 := rz_row (i := 54) h (fun _ => rfl)
  have e55 := rz_row (i := 55) h (fun _ => rfl)
  have e56 := rz_row (i := 56) h (fun _ => rfl)
  have e57 := rz_row (i := 57) h (fun _ => rfl)
  have e58 := rz_row (i := 58) h (fun _ => rfl)
  have e59 := rz_row (i := 59) h (fun _ => rfl)
  have e60 := rz_row (i := 60) h (fun _ => rfl)
  have e61 := rz_row (i := 61) h (fun _ => rfl)
  have e62 := rz_row (i := 62) h (fun _ => rfl)
  have e63 := rz_row (i := 63) h (fun _ => rfl)
  have e64 := rz_row (i := 64) h (fun _ => rfl)
  have e65 := rz_row (i := 65) h (fun _ => rfl)
  have e66 := rz_row (i := 66) h (fun _ => rfl)
  have e67 := rz_row (i := 67) h (fun _ => rfl)
  have e68 := rz_row (i := 68) h (fun _ => rfl)
  have e69 := rz_row (i := 69) h (fun _ => rfl)
  have e70 := rz_row (i := 70) h (fun _ => rfl)
  have e77 := rz_row (i := 77) h (fun _ => rfl)
  have e78 := rz_row (i := 78) h (fun _ => rfl)
  have f0 := rz_of h (i := 53) (q := 0) rfl
  have f5 := rz_of h (i := 53) (q := 5) rfl
  have f26 := rz_of h (i := 53) (q := 26) rfl
  have f29 := rz_of h (i := 53) (q := 29) rfl
  unfold opHang
  simp only [e54, e55, e56, e57, e58, e59, e60, e61, e62, e63, e64, e65, e66, e67, e68, e69, e70, e77, e78, f0, f5, f26, f29]
  repeat' split
  all_goals exact ⟨rfl, by simp only [rz_u54, rz_u55, rz_u56, rz_u57, rz_u58, rz_u59, rz_u60, rz_u61, rz_u62, rz_u63, rz_u64, rz_u65, rz_u66, rz_u67, rz_u68, rz_u69, rz_u70, rz_u77, rz_u78, rz_f0, rz_f5, rz_f26, rz_f29, rz_f1, h, up53_66, up53_67, e66, e67]⟩
theorem opThread_cg {g g1 : Hp} (h : rz g1 = rz g) (x1 x2 : Int) : (opThread g1 x1 x2).1 = (opThread g x1 x2).1 ∧ rz (opThread g1 x1 x2).2 = rz (opThread g x1 x2).2 := by
  have e54 := rz_row (i := 54) h (fun _ => rfl)
  have e55 := rz_row (i := 55) h (fun _ => rfl)
  have e56 := rz_row (i := 56) h (fun _ => rfl)
  have e57 := rz_row (i := 57) h (fun _ => rfl)
  have e58 := rz_row (i := 58) h (fun _ => rfl)
  have e59 := rz_row (i := 59) h (fun _ => rfl)
  have e60 := rz_row (i := 60) h (fun _ => rfl)
  have e61 := rz_row (i := 61) h (fun _ => rfl)
  have e62 := rz_row (i := 62) h (fun _ => rfl)
  have e63 := rz_row (i := 63) h (fun _ => rfl)
  have e64 := rz_row (i := 64) h (fun _ => rfl)
  have e65 := rz_row (i := 65) h (fun _ => rfl)
  have e66 := rz_row (i := 66) h (fun _ => rfl)
  have e67 := rz_row (i := 67) h (fun _ => rfl)
  have e68 := rz_row (i := 68) h (fun _ => rfl)
  have e69 := rz_row (i := 69) h (fun _ => rfl)
  have e70 := rz_row (i := 70) h (fun _ => rfl)
  have e77 := rz_row (i := 77) h (fun _ => rfl)
  have e78 := rz_row (i := 78) h (fun _ => rfl)
  have f0 := rz_of h (i := 53) (q := 0) rfl
  have f5 := rz_of h (i := 53) (q := 5) rfl
  have f26 := rz_of h (i := 53) (q := 26) rfl
  have f29 := rz_of h (i := 53) (q := 29) rfl
  unfold opThread
  simp only [e54, e55, e56, e57, e58, e59, e60, e61, e62, e63, e64, e65, e66, e67, e68, e69, e70, e77, e78, f0, f5, f26, f29]
  repeat' split
  all_goals exact ⟨rfl, by simp only [rz_u54, rz_u55, rz_u56, rz_u57, rz_u58, rz_u59, rz_u60, rz_u61, rz_u62, rz_u63, rz_u64, rz_u65, rz_u66, rz_u67, rz_u68, rz_u69, rz_u70, rz_u77, rz_u78, rz_f0, rz_f5, rz_f26, rz_f29, rz_f1, h, up53_66, up53_67, e66, e67]⟩
theorem opTied_cg {g g1 : Hp} (h : rz g1 = rz g) (x1 x2 x3 : Int) : (opTied g1 x1 x2 x3).1 = (opTied g x1 x2 x3).1 ∧ rz (opTied g1 x1 x2 x3).2 = rz (opTied g x1 x2 x3).2 := by
  have e54 := rz_row (i := 54) h (fun _ => rfl)
  have e55 := rz_row (i := 55) h (fun _ => rfl)
  have e56 := rz_row (i := 56) h (fun _ => rfl)
  have e57 := rz_row (i := 57) h (fun _ => rfl)
  have e58 := rz_row (i := 58) h (fun _ => rfl)
  have e59 := rz_row (i := 59) h (fun _ => rfl)
  have e60 := rz_row (i := 60) h (fun _ => rfl)
  have e61 := rz_row (i := 61) h (fun _ => rfl)
  have e62 := rz_row (i := 62) h (fun _ => rfl)
  have e63 := rz_row (i := 63) h (fun _ => rfl)
  have e64 := rz_row (i := 64) h (fun _ => rfl)
  have e65 := rz_row (i := 65) h (fun _ => rfl)
  have e66 := rz_row (i := 66) h (fun _ => rfl)
  have e67 := rz_row (i := 67) h (fun _ => rfl)
  have e68 := rz_row (i := 68) h (fun _ => rfl)
  have e69 := rz_row (i := 69) h (fun _ => rfl)
  have e70 := rz_row (i := 70) h (fun _ => rfl)
  have e77 := rz_row (i := 77) h (fun _ => rfl)
  have e78 := rz_row (i := 78) h (fun _ => rfl)
  have f0 := rz_of h (i := 53) (q := 0) rfl
  have f5 := rz_of h (i := 53) (q := 5) rfl
  have f26 := rz_of h (i := 53) (q := 26) rfl
  have f29 := rz_of h (i := 53) (q := 29) rfl
  unfold opTied rodI
  simp only [e54, e55, e56, e57, e58, e59, e60, e61, e62, e63, e64, e65, e66, e67, e68, e69, e70, e77, e78, f0, f5, f26, f29]
  repeat' split
  all_goals exact ⟨rfl, by simp only [rz_u54, rz_u55, rz_u56, rz_u57, rz_u58, rz_u59, rz_u60, rz_u61, rz_u62, rz_u63, rz_u64, rz_u65, rz_u66, rz_u67, rz_u68, rz_u69, rz_u70, rz_u77, rz_u78, rz_f0, rz_f5, rz_f26, rz_f29, rz_f1, h, up53_66, up53_67, e66, e67]⟩
theorem opPart_cg {g g1 : Hp} (h : rz g1 = rz g) (x1 x2 : Int) : (opPart g1 x1 x2).1 = (opPart g x1 x2).1 ∧ rz (opPart g1 x1 x2).2 = rz (opPart g x1 x2).2 := by
  have e54 := rz_row (i := 54) h (fun _ => rfl)
  have e55 := rz_row (i := 55) h (fun _ => rfl)
  have e56 := rz_row (i := 56) h (fun _ => rfl)
  have e57 := rz_row (i := 57) h (fun _ => rfl)
  have e58 := rz_row (i := 58) h (fun _ => rfl)
  have e59 := rz_row (i := 59) h (fun _ => rfl)
  have e60 := rz_row (i := 60) h (fun _ => rfl)
  have e61 := rz_row (i := 61) h (fun _ => rfl)
  have e62 := rz_row (i := 62) h (fun _ => rfl)
  have e63 := rz_row (i := 63) h (fun _ => rfl)
  have e64 := rz_row (i := 64) h (fun _ => rfl)
  have e65 := rz_row (i := 65) h (fun _ => rfl)
  have e66 := rz_row (i := 66) h (fun _ => rfl)
  have e67 := rz_row (i := 67) h (fun _ => rfl)
  have e68 := rz_row (i := 68) h (fun _ => rfl)
  have e69 := rz_row (i := 69) h (fun _ => rfl)
  have e70 := rz_row (i := 70) h (fun _ => rfl)
  have e77 := rz_row (i := 77) h (fun _ => rfl)
  have e78 := rz_row (i := 78) h (fun _ => rfl)
  have f0 := rz_of h (i := 53) (q := 0) rfl
  have f5 := rz_of h (i := 53) (q := 5) rfl
  have f26 := rz_of h (i := 53) (q := 26) rfl
  have f29 := rz_of h (i := 53) (q := 29) rfl
  unfold opPart
  simp only [e54, e55, e56, e57, e58, e59, e60, e61, e62, e63, e64, e65, e66, e67, e68, e69, e70, e77, e78, f0, f5, f26, f29]
  repeat' split
  all_goals exact ⟨rfl, by simp only [rz_u54, rz_u55, rz_u56, rz_u57, rz_u58, rz_u59, rz_u60, rz_u61, rz_u62, rz_u63, rz_u64, rz_u65, rz_u66, rz_u67, rz_u68, rz_u69, rz_u70, rz_u77, rz_u78, rz_f0, rz_f5, rz_f26, rz_f29, rz_f1, h, up53_66, up53_67, e66, e67]⟩
theorem opRodAt_cg {g g1 : Hp} (h : rz g1 = rz g) (x1 x2 : Int) : (opRodAt g1 x1 x2).1 = (opRodAt g x1 x2).1 ∧ rz (opRodAt g1 x1 x2).2 = rz (opRodAt g x1 x2).2 := by
  have e54 := rz_row (i := 54) h (fun _ => rfl)
  have e55 := rz_row (i := 55) h (fun _ => rfl)
  have e56 := rz_row (i := 56) h (fun _ => rfl)
  have e57 := rz_row (i := 57) h (fun _ => rfl)
  have e58 := rz_row (i := 58) h (fun _ => rfl)
  have e59 := rz_row (i := 59) h (fun _ => rfl)
  have e60 := rz_row (i := 60) h (fun _ => rfl)
  have e61 := rz_row (i := 61) h (fun _ => rfl)
  have e62 := rz_row (i := 62) h (fun _ => rfl)
  have e63 := rz_row (i := 63) h (fun _ => rfl)
  have e64 := rz_row (i := 64) h (fun _ => rfl)
  have e65 := rz_row (i := 65) h (fun _ => rfl)
  have e66 := rz_row (i := 66) h (fun _ => rfl)
  have e67 := rz_row (i := 67) h (fun _ => rfl)
  have e68 := rz_row (i := 68) h (fun _ => rfl)
  have e69 := rz_row (i := 69) h (fun _ => rfl)
  have e70 := rz_row (i := 70) h (fun _ => rfl)
  have e77 := rz_row (i := 77) h (fun _ => rfl)
  have e78 := rz_row (i := 78) h (fun _ => rfl)
  have f0 := rz_of h (i := 53) (q := 0) rfl
  have f5 := rz_of h (i := 53) (q := 5) rfl
  have f26 := rz_of h (i := 53) (q := 26) rfl
  have f29 := rz_of h (i := 53) (q := 29) rfl
  unfold opRodAt rodI
  simp only [e54, e55, e56, e57, e58, e59, e60, e61, e62, e63, e64, e65, e66, e67, e68, e69, e70, e77, e78, f0, f5, f26, f29]
  repeat' split
  all_goals exact ⟨rfl, by simp only [rz_u54, rz_u55, rz_u56, rz_u57, rz_u58, rz_u59, rz_u60, rz_u61, rz_u62, rz_u63, rz_u64, rz_u65, rz_u66, rz_u67, rz_u68, rz_u69, rz_u70, rz_u77, rz_u78, rz_f0, rz_f5, rz_f26, rz_f29, rz_f1, h, up53_66, up53_67, e66, e67]⟩
theorem opRead_cg {g g1 : Hp} (h : rz g1 = rz g) (x1 x2 : Int) : (opRead g1 x1 x2).1 = (opRead g x1 x2).1 ∧ rz (opRead g1 x1 x2).2 = rz (opRead g x1 x2).2 := by
  have e54 := rz_row (i := 54) h (fun _ => rfl)
  have e55 := rz_row (i := 55) h (fun _ => rfl)
  have e56 := rz_row (i := 56) h (fun _ => rfl)
  have e57 := rz_row (i := 57) h (fun _ => rfl)
  have e58 := rz_row (i := 58) h (fun _ => rfl)
  have e59 := rz_row (i := 59) h (fun _ => rfl)
  have e60 := rz_row (i := 60) h (fun _ => rfl)
  have e61 := rz_row (i := 61) h (fun _ => rfl)
  have e62 := rz_row (i := 62) h (fun _ => rfl)
  have e63 := rz_row (i := 63) h (fun _ => rfl)
  have e64 := rz_row (i := 64) h (fun _ => rfl)
  have e65 := rz_row (i := 65) h (fun _ => rfl)
  have e66 := rz_row (i := 66) h (fun _ => rfl)
  have e67 := rz_row (i := 67) h (fun _ => rfl)
  have e68 := rz_row (i := 68) h (fun _ => rfl)
  have e69 := rz_row (i := 69) h (fun _ => rfl)
  have e70 := rz_row (i := 70) h (fun _ => rfl)
  have e77 := rz_row (i := 77) h (fun _ => rfl)
  have e78 := rz_row (i := 78) h (fun _ => rfl)
  have f0 := rz_of h (i := 53) (q := 0) rfl
  have f5 := rz_of h (i := 53) (q := 5) rfl
  have f26 := rz_of h (i := 53) (q := 26) rfl
  have f29 := rz_of h (i := 53) (q := 29) rfl
  unfold opRead plcI
  simp only [e54, e55, e56, e57, e58, e59, e60, e61, e62, e63, e64, e65, e66, e67, e68, e69, e70, e77, e78, f0, f5, f26, f29]
  repeat' split
  all_goals exact ⟨rfl, by simp only [rz_u54, rz_u55, rz_u56, rz_u57, rz_u58, rz_u59, rz_u60, rz_u61, rz_u62, rz_u63, rz_u64, rz_u65, rz_u66, rz_u67, rz_u68, rz_u69, rz_u70, rz_u77, rz_u78, rz_f0, rz_f5, rz_f26, rz_f29, rz_f1, h, up53_66, up53_67, e66, e67]⟩
theorem opWrite_cg {g g1 : Hp} (h : rz g1 = rz g) (x1 x2 x3 : Int) : (opWrite g1 x1 x2 x3).1 = (opWrite g x1 x2 x3).1 ∧ rz (opWrite g1 x1 x2 x3).2 = rz (opWrite g x1 x2 x3).2 := by
  have e54 := rz_row (i := 54) h (fun _ => rfl)
  have e55 := rz_row (i := 55) h (fun _ => rfl)
  have e56 := rz_row (i := 56) h (fun _ => rfl)
  have e57 := rz_row (i := 57) h (fun _ => rfl)
  have e58 := rz_row (i := 58) h (fun _ => rfl)
  have e59 := rz_row (i := 59) h (fun _ => rfl)
  have e60 := rz_row (i := 60) h (fun _ => rfl)
  have e61 := rz_row (i := 61) h (fun _ => rfl)
  have e62 := rz_row (i := 62) h (fun _ => rfl)
  have e63 := rz_row (i := 63) h (fun _ => rfl)
  have e64 := rz_row (i := 64) h (fun _ => rfl)
  have e65 := rz_row (i := 65) h (fun _ => rfl)
  have e66 := rz_row (i := 66) h (fun _ => rfl)
  have e67 := rz_row (i := 67) h (fun _ => rfl)
  have e68 := rz_row (i := 68) h (fun _ => rfl)
  have e69 := rz_row (i := 69) h (fun _ => rfl)
  have e70 := rz_row (i := 70) h (fun _ => rfl)
  have e77 := rz_row (i := 77) h (fun _ => rfl)
  have e78 := rz_row (i := 78) h (fun _ => rfl)
  have f0 := rz_of h (i := 53) (q := 0) rfl
  have f5 := rz_of h (i := 53) (q := 5) rfl
  have f26 := rz_of h (i := 53) (q := 26) rfl
  have f29 := rz_of h (i := 53) (q := 29) rfl
  unfold opWrite plcI
  simp only [e54, e55, e56, e57, e58, e59, e60, e61, e62, e63, e64, e65, e66, e67, e68, e69, e70, e77, e78, f0, f5, f26, f29]
  repeat' split
  all_goals exact ⟨rfl, by simp only [rz_u54, rz_u55, rz_u56, rz_u57, rz_u58, rz_u59, rz_u60, rz_u61, rz_u62, rz_u63, rz_u64, rz_u65, rz_u66, rz_u67, rz_u68, rz_u69, rz_u70, rz_u77, rz_u78, rz_f0, rz_f5, rz_f26, rz_f29, rz_f1, h, up53_66, up53_67, e66, e67]⟩
theorem nwW_cg {g g1 : Hp} (h : rz g1 = rz g) (x1 : Int) : (nwW g1 x1).1 = (nwW g x1).1 ∧ rz (nwW g1 x1).2 = rz (nwW g x1).2 := by
  have e54 := rz_row (i := 54) h (fun _ => rfl)
  have e55 := rz_row (i := 55) h (fun _ => rfl)
  have e56 := rz_row (i := 56) h (fun _ => rfl)
  have e57 := rz_row (i := 57) h (fun _ => rfl)
  have e58 := rz_row (i := 58) h (fun _ => rfl)
  have e59 := rz_row (i := 59) h (fun _ => rfl)
  have e60 := rz_row (i := 60) h (fun _ => rfl)
  have e61 := rz_row (i := 61) h (fun _ => rfl)
  have e62 := rz_row (i := 62) h (fun _ => rfl)
  have e63 := rz_row (i := 63) h (fun _ => rfl)
  have e64 := rz_row (i := 64) h (fun _ => rfl)
  have e65 := rz_row (i := 65) h (fun _ => rfl)
  have e66 := rz_row (i := 66) h (fun _ => rfl)
  have e67 := rz_row (i := 67) h (fun _ => rfl)
  have e68 := rz_row (i := 68) h (fun _ => rfl)
  have e69 := rz_row (i := 69) h (fun _ => rfl)
  have e70 := rz_row (i := 70) h (fun _ => rfl)
  have e77 := rz_row (i := 77) h (fun _ => rfl)
  have e78 := rz_row (i := 78) h (fun _ => rfl)
  have f0 := rz_of h (i := 53) (q := 0) rfl
  have f5 := rz_of h (i := 53) (q := 5) rfl
  have f26 := rz_of h (i := 53) (q := 26) rfl
  have f29 := rz_of h (i := 53) (q := 29) rfl
  unfold nwW nwp
  simp only [e54, e55, e56, e57, e58, e59, e60, e61, e62, e63, e64, e65, e66, e67, e68, e69, e70, e77, e78, f0, f5, f26, f29]
  repeat' split
  all_goals exact ⟨rfl, by simp only [rz_u54, rz_u55, rz_u56, rz_u57, rz_u58, rz_u59, rz_u60, rz_u61, rz_u62, rz_u63, rz_u64, rz_u65, rz_u66, rz_u67, rz_u68, rz_u69, rz_u70, rz_u77, rz_u78, rz_f0, rz_f5, rz_f26, rz_f29, rz_f1, h, up53_66, up53_67, e66, e67]⟩
theorem opRod_cg {g g1 : Hp} (h : rz g1 = rz g) (x1 x2 x3 : Int) : (opRod g1 x1 x2 x3).1 = (opRod g x1 x2 x3).1 ∧ rz (opRod g1 x1 x2 x3).2 = rz (opRod g x1 x2 x3).2 := by
  have e54 := rz_row (i := 54) h (fun _ => rfl)
  have e55 := rz_row (i := 55) h (fun _ => rfl)
  have e56 := rz_row (i := 56) h (fun _ => rfl)
  have e57 := rz_row (i := 57) h (fun _ => rfl)
  have e58 := rz_row (i := 58) h (fun _ => rfl)
  have e59 := rz_row (i := 59) h (fun _ => rfl)
  have e60 := rz_row (i := 60) h (fun _ => rfl)
  have e61 := rz_row (i := 61) h (fun _ => rfl)
  have e62 := rz_row (i := 62) h (fun _ => rfl)
  have e63 := rz_row (i := 63) h (fun _ => rfl)
  have e64 := rz_row (i := 64) h (fun _ => rfl)
  have e65 := rz_row (i := 65) h (fun _ => rfl)
  have e66 := rz_row (i := 66) h (fun _ => rfl)
  have e67 := rz_row (i := 67) h (fun _ => rfl)
  have e68 := rz_row (i := 68) h (fun _ => rfl)
  have e69 := rz_row (i := 69) h (fun _ => rfl)
  have e70 := rz_row (i := 70) h (fun _ => rfl)
  have e77 := rz_row (i := 77) h (fun _ => rfl)
  have e78 := rz_row (i := 78) h (fun _ => rfl)
  have f0 := rz_of h (i := 53) (q := 0) rfl
  have f5 := rz_of h (i := 53) (q := 5) rfl
  have f26 := rz_of h (i := 53) (q := 26) rfl
  have f29 := rz_of h (i := 53) (q := 29) rfl
  unfold opRod nwp
  simp only [e54, e55, e56, e57, e58, e59, e60, e61, e62, e63, e64, e65, e66, e67, e68, e69, e70, e77, e78, f0, f5, f26, f29]
  repeat' split
  all_goals exact ⟨rfl, by simp only [rz_u54, rz_u55, rz_u56, rz_u57, rz_u58, rz_u59, rz_u60, rz_u61, rz_u62, rz_u63, rz_u64, rz_u65, rz_u66, rz_u67, rz_u68, rz_u69, rz_u70, rz_u77, rz_u78, rz_f0, rz_f5, rz_f26, rz_f29, rz_f1, h, up53_66, up53_67, e66, e67]⟩
theorem opSwap_cg {g g1 : Hp} (h : rz g1 = rz g) (x1 : Int) : (opSwap g1 x1).1 = (opSwap g x1).1 ∧ rz (opSwap g1 x1).2 = rz (opSwap g x1).2 := by
  have e54 := rz_row (i := 54) h (fun _ => rfl)
  have e55 := rz_row (i := 55) h (fun _ => rfl)
  have e56 := rz_row (i := 56) h (fun _ => rfl)
  have e57 := rz_row (i := 57) h (fun _ => rfl)
  have e58 := rz_row (i := 58) h (fun _ => rfl)
  have e59 := rz_row (i := 59) h (fun _ => rfl)
  have e60 := rz_row (i := 60) h (fun _ => rfl)
  have e61 := rz_row (i := 61) h (fun _ => rfl)
  have e62 := rz_row (i := 62) h (fun _ => rfl)
  have e63 := rz_row (i := 63) h (fun _ => rfl)
  have e64 := rz_row (i := 64) h (fun _ => rfl)
  have e65 := rz_row (i := 65) h (fun _ => rfl)
  have e66 := rz_row (i := 66) h (fun _ => rfl)
  have e67 := rz_row (i := 67) h (fun _ => rfl)
  have e68 := rz_row (i := 68) h (fun _ => rfl)
  have e69 := rz_row (i := 69) h (fun _ => rfl)
  have e70 := rz_row (i := 70) h (fun _ => rfl)
  have e77 := rz_row (i := 77) h (fun _ => rfl)
  have e78 := rz_row (i := 78) h (fun _ => rfl)
  have f0 := rz_of h (i := 53) (q := 0) rfl
  have f5 := rz_of h (i := 53) (q := 5) rfl
  have f26 := rz_of h (i := 53) (q := 26) rfl
  have f29 := rz_of h (i := 53) (q := 29) rfl
  unfold opSwap rodI sw0
  simp only [e54, e55, e56, e57, e58, e59, e60, e61, e62, e63, e64, e65, e66, e67, e68, e69, e70, e77, e78, f0, f5, f26, f29]
  repeat' split
  all_goals exact ⟨rfl, by simp only [rz_u54, rz_u55, rz_u56, rz_u57, rz_u58, rz_u59, rz_u60, rz_u61, rz_u62, rz_u63, rz_u64, rz_u65, rz_u66, rz_u67, rz_u68, rz_u69, rz_u70, rz_u77, rz_u78, rz_f0, rz_f5, rz_f26, rz_f29, rz_f1, h, up53_66, up53_67, e66, e67]⟩
