/-! THE LAW: its loop -/
section LawLoop
variable {A d : Nat} {N : Int} {w : Nat → Int} {P : Pst}
theorem lw_case {i : Int} {n k z : Nat} {dy : Nat → Shp} {g : Hp} (hs : Sq A N w g) (hw : ∀ q, i3 (w q)) (hi : 0 ≤ i ∧ i + 6 ≤ N) (hI : Inv g) (hC : Ca n dy g g) (hk : k + 1 ≤ 601024) (hz : z + 16 ≤ 7293034) (hN : Nx (d + 123) P A N w i k z) : ∀ m : Nat, m < 35 → V miL_law (d + 123) 40 (LW A i) [I_ (m : Int)] n (W0 dy) g k z P
  | 0, _ => v_tswIn (x := 0) (off := 156) (tgt := 196) 24 lr_24 (by decide) (by decide) (by decide) rfl (by decide) (lc_status hs hw hi hI hC hk hz hN)
  | 1, _ => v_tswIn (x := 1) (off := 169) (tgt := 209) 24 lr_24 (by decide) (by decide) (by decide) rfl (by decide) (lc_tray hs hw hi hI hC hk hz hN)
  | 2, _ => v_tswIn (x := 2) (off := 218) (tgt := 258) 24 lr_24 (by decide) (by decide) (by decide) rfl (by decide) (lc_write hs hw hi hI hC hk hz hN)
  | 3, _ => v_tswIn (x := 3) (off := 299) (tgt := 339) 24 lr_24 (by decide) (by decide) (by decide) rfl (by decide) (lc_read hs hw hi hI hC hk hz hN)
  | 4, _ => v_tswIn (x := 4) (off := 337) (tgt := 377) 24 lr_24 (by decide) (by decide) (by decide) rfl (by decide) (lc_pour hs hw hi hI hC hk hz hN)
  | 5, _ => v_tswIn (x := 5) (off := 410) (tgt := 450) 24 lr_24 (by decide) (by decide) (by decide) rfl (by decide) (lc_weight hs hw hi hI hC hk hz hN)
  | 6, _ => v_tswIn (x := 6) (off := 435) (tgt := 475) 24 lr_24 (by decide) (by decide) (by decide) rfl (by decide) (lc_load hs hw hi hI hC hk hz hN)
  | 7, _ => v_tswIn (x := 7) (off := 472) (tgt := 512) 24 lr_24 (by decide) (by decide) (by decide) rfl (by decide) (lc_rod hs hw hi hI hC hk hz hN)
  | 8, _ => v_tswIn (x := 8) (off := 537) (tgt := 577) 24 lr_24 (by decide) (by decide) (by decide) rfl (by decide) (lc_plate hs hw hi hI hC hk hz hN)
  | 9, _ => v_tswIn (x := 9) (off := 574) (tgt := 614) 24 lr_24 (by decide) (by decide) (by decide) rfl (by decide) (lc_part hs hw hi hI hC hk hz hN)
  | 10, _ => v_tswIn (x := 10) (off := 611) (tgt := 651) 24 lr_24 (by decide) (by decide) (by decide) rfl (by decide) (lc_rodAt hs hw hi hI hC hk hz hN)
  | 11, _ => v_tswIn (x := 11) (off := 649) (tgt := 689) 24 lr_24 (by decide) (by decide) (by decide) rfl (by decide) (lc_middle hs hw hi hI hC hk hz hN)
  | 12, _ => v_tswIn (x := 12) (off := 687) (tgt := 727) 24 lr_24 (by decide) (by decide) (by decide) rfl (by decide) (lc_hang hs hw hi hI hC hk hz hN)
  | 13, _ => v_tswIn (x := 13) (off := 748) (tgt := 788) 24 lr_24 (by decide) (by decide) (by decide) rfl (by decide) (lc_take hs hw hi hI hC hk hz hN)
  | 14, _ => v_tswIn (x := 14) (off := 773) (tgt := 813) 24 lr_24 (by decide) (by decide) (by decide) rfl (by decide) (lc_thread hs hw hi hI hC hk hz hN)
  | 15, _ => v_tswIn (x := 15) (off := 810) (tgt := 850) 24 lr_24 (by decide) (by decide) (by decide) rfl (by decide) (lc_tied hs hw hi hI hC hk hz hN)
  | 16, _ => v_tswIn (x := 16) (off := 859) (tgt := 899) 24 lr_24 (by decide) (by decide) (by decide) rfl (by decide) (lc_swap hs hw hi hI hC hk hz hN)
  | 17, _ => v_tswIn (x := 17) (off := 884) (tgt := 924) 24 lr_24 (by decide) (by decide) (by decide) rfl (by decide) (lc_bears hs hw hi hI hC hk hz hN)
  | 18, _ => v_tswIn (x := 18) (off := 910) (tgt := 950) 24 lr_24 (by decide) (by decide) (by decide) rfl (by decide) (lc_tilts hs hw hi hI hC hk hz hN)
  | 19, _ => v_tswIn (x := 19) (off := 935) (tgt := 975) 24 lr_24 (by decide) (by decide) (by decide) rfl (by decide) (lc_wrong hs hw hi hI hC hk hz hN)
  | 20, _ => v_tswIn (x := 20) (off := 960) (tgt := 1000) 24 lr_24 (by decide) (by decide) (by decide) rfl (by decide) (lc_tie hs hw hi hI hC hk hz hN)
  | 21, _ => v_tswIn (x := 21) (off := 998) (tgt := 1038) 24 lr_24 (by decide) (by decide) (by decide) rfl (by decide) (lc_all hs hw hi hI hC hk hz hN)
  | 22, _ => v_tswIn (x := 22) (off := 1023) (tgt := 1063) 24 lr_24 (by decide) (by decide) (by decide) rfl (by decide) (lc_reach hs hw hi hI hC hk hz hN)
  | 23, _ => v_tswIn (x := 23) (off := 1088) (tgt := 1128) 24 lr_24 (by decide) (by decide) (by decide) rfl (by decide) (lc_lowest hs hw hi hI hC hk hz hN)
  | 24, _ => v_tswIn (x := 24) (off := 1113) (tgt := 1153) 24 lr_24 (by decide) (by decide) (by decide) rfl (by decide) (lc_clash hs hw hi hI hC hk hz hN)
  | 25, _ => v_tswIn (x := 25) (off := 1150) (tgt := 1190) 24 lr_24 (by decide) (by decide) (by decide) rfl (by decide) (lc_clashes hs hw hi hI hC hk hz hN)
  | 26, _ => v_tswIn (x := 26) (off := 1175) (tgt := 1215) 24 lr_24 (by decide) (by decide) (by decide) rfl (by decide) (lc_clear hs hw hi hI hC hk hz hN)
  | 27, _ => v_tswIn (x := 27) (off := 1200) (tgt := 1240) 24 lr_24 (by decide) (by decide) (by decide) rfl (by decide) (lc_ways hs hw hi hI hC hk hz hN)
  | 28, _ => v_tswIn (x := 28) (off := 1237) (tgt := 1277) 24 lr_24 (by decide) (by decide) (by decide) rfl (by decide) (lc_fill hs hw hi hI hC hk hz hN)
  | 29, _ => v_tswIn (x := 29) (off := 1286) (tgt := 1326) 24 lr_24 (by decide) (by decide) (by decide) rfl (by decide) (lc_fewest hs hw hi hI hC hk hz hN)
  | 30, _ => v_tswIn (x := 30) (off := 1323) (tgt := 1363) 24 lr_24 (by decide) (by decide) (by decide) rfl (by decide) (lc_suspect hs hw hi hI hC hk hz hN)
  | 31, _ => v_tswIn (x := 31) (off := 1348) (tgt := 1388) 24 lr_24 (by decide) (by decide) (by decide) rfl (by decide) (lc_cut hs hw hi hI hC hk hz hN)
  | 32, _ => v_tswIn (x := 32) (off := 1361) (tgt := 1401) 24 lr_24 (by decide) (by decide) (by decide) rfl (by decide) (lc_same hs hw hi hI hC hk hz hN)
  | 33, _ => v_tswIn (x := 33) (off := 1398) (tgt := 1438) 24 lr_24 (by decide) (by decide) (by decide) rfl (by decide) (lc_show hs hw hi hI hC hk hz hN)
  | 34, _ => v_tswIn (x := 34) (off := 1423) (tgt := 1463) 24 lr_24 (by decide) (by decide) (by decide) rfl (by decide) (lc_out hs hw hi hI hC hk hz hN)
  | m + 35, h => absurd h (by omega)
theorem lw_loop (hw : ∀ q, i3 (w q)) (hNN : 0 ≤ N ∧ N ≤ 3072) (hP : ∀ n S g, P (some (I_ 1)) n S g) : ∀ (R : Nat) (i : Int) (n k z : Nat) (dy : Nat → Shp) (g : Hp), (0 ≤ i ∧ i ≤ 3072) → N < i + 6 * (R + 1) → k + R ≤ 601024 → z + 16 * R ≤ 7293034 → Inv g → Ca n dy g g → Sq A N w g → V miL_law (d + 123) 23 (LW A i) [] n (W0 dy) g k z P := by
  intro R
  induction R with
  | zero =>
    intro i n k z dy g hi hR hk hz hI hC hs
    refine v_iload 13 4 lr_13 rfl ?_
    refine v_aloadS (a := A) 14 0 lr_14 rfl rfl ?_
    obtain ⟨s1, s2, s3⟩ := hs
    rw [← s1]
    refine v_slen 15 lr_15 ?_
    rw [s2]
    refine v_bipush 16 lr_16 (by decide) ?_
    refine v_isub 17 lr_17 ?_
    refine v_icmp_gt (tgt := 1525) 18 lr_18 (by decide) (by unfold i3; omega) (by unfold i3; omega) (fun _ => ?_) (fun c => ?_)
    · refine v_iconst 975 lr_975 ?_
      exact v_ret (v := some (I_ 1)) 976 lr_976 (show k ≤ 601024 by omega) (show z ≤ 7293034 by omega) (Or.inr rfl) rfl (hP _ _ _)
    · exfalso; omega
  | succ R ih =>
    intro i n k z dy g hi hR hk hz hI hC hs
    refine v_iload 13 4 lr_13 rfl ?_
    refine v_aloadS (a := A) 14 0 lr_14 rfl rfl ?_
    have hs' := hs
    obtain ⟨s1, s2, s3⟩ := hs
    rw [← s1]
    refine v_slen 15 lr_15 ?_
    rw [s2]
    refine v_bipush 16 lr_16 (by decide) ?_
    refine v_isub 17 lr_17 ?_
    refine v_icmp_gt (tgt := 1525) 18 lr_18 (by decide) (by unfold i3; omega) (by unfold i3; omega) (fun _ => ?_) (fun c => ?_)
    · refine v_iconst 975 lr_975 ?_
      exact v_ret (v := some (I_ 1)) 976 lr_976 (show k ≤ 601024 by omega) (show z ≤ 7293034 by omega) (Or.inr rfl) rfl (hP _ _ _)
    · refine v_aloadS (a := (g 0 0).toNat) 19 0 lr_19 rfl rfl ?_
      refine v_iload 20 4 lr_20 rfl ?_
      refine v_sld 21 lr_21 (by rw [s2]; omega) ?_
      rw [s3]
      refine v_bipush 22 lr_22 (by decide) ?_
      refine v_iand 23 lr_23 ?_
      have hx := and3_r (w i.toNat) 63
      generalize and3 (w i.toNat) 63 = x at hx
      rw [s1]
      have hN : Nx (d + 123) P A N w i k z := by
        intro n' dy' g' k' z' hI' hC' hs1 hk' hz'
        refine v_iinc 973 4 [1, 2, 3, 4, 0] lr_973 rfl (by decide) rfl ?_
        refine v_goto (tgt := 23) 974 lr_974 (by decide) ?_
        exact ih (i + 6) n' k' z' dy' g' (by omega) (by omega) (by omega) (by omega) hI' hC' hs1
      by_cases cx : 0 ≤ x ∧ x ≤ 34
      · have := lw_case hs' hw (by omega) hI hC (by omega) (by omega) hN x.toNat (by omega)
        rw [show ((x.toNat : Nat) : Int) = x by omega] at this
        exact this
      · exact v_tswOut (tgt := 1519) 24 lr_24 hx (by omega) (by decide) (hN _ _ _ _ _ hI hC hs' (by omega) (by omega))
end LawLoop
