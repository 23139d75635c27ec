/-! THE LAW: its cases -/
set_option maxHeartbeats 4000000 in
set_option maxRecDepth 4000 in
theorem lc_tilts {A d n k z : Nat} {N i : Int} {w : Nat → Int} {dy : Nat → Shp} {g : Hp} {P : Pst} (hs : Sq A N w g) (hw : ∀ q, i3 (w q)) (hi : 0 ≤ i ∧ i + 6 ≤ N) (hI : Inv g) (hC : Ca n dy g g) (hk : k + 1 ≤ 601024) (hz : z + 16 ≤ 7293034) (hN : Nx (d + 123) P A N w i k z) : V miL_law (d + 123) 950 (LW A i) [] n (W0 dy) g k z P := by
  have hn : 100 ≤ n := hC.1
  refine v_aload_n 577 1 lr_577 rfl rfl ?_
  refine l_arg 578 lr_578 lr_579 lr_580 lr_581 lr_582 hs (by omega) ?_
  refine v_callV (M' := miX11_tilts) (st := []) [I_ (w (i + 1).toNat)] 583 lr_583 lvL_104 ⟨by omega, by omega⟩ (wk1 dy) (by decide) rfl (show k + 0 ≤ 601024 by omega) (show z + 0 ≤ 7293034 by omega) ?_
  refine cs_tilts hC hI (hw _) (fun v a' g1 e hC1 hK => ?_)
  show V miL_law (d + 123) 960 (LW A i) [I_ v] n (W0 dy) g1 (k + 0) (z + 0) P
  have hs1 := hs.kr hK
  have hI1 := hI.kr hK
  have hn1 : 100 ≤ n := hC1.1
  refine v_aload_n 584 2 lr_584 rfl rfl ?_
  refine l_arg 585 lr_585 lr_586 lr_587 lr_588 lr_589 hs1 (by omega) ?_
  refine v_callV (M' := miX12_tilts) (st := [I_ v]) [I_ (w (i + 1).toNat)] 590 lr_590 lvL_107 ⟨by omega, by omega⟩ (wk53 dy) (by decide) rfl (show k + 0 + 0 ≤ 601024 by omega) (show z + 0 + 0 ≤ 7293034 by omega) ?_
  refine rs_tilts hn1 hI1 (hw _) (fun v' g2 b' e2 hb hk2 => ?_)
  obtain ⟨ev, hI2, hC2, hK2⟩ := jc (op := fun g => opTilts g (w (i + 1).toNat)) (fun g g1 h => opTilts_cg h _) (fun a h => inv_tilts h _) hI hK e hC1 e2 hb hk2
  subst ev
  show V miL_law (d + 123) 970 (LW A i) [I_ v', I_ v'] n (W0 dy) g2 (k + 0 + 0) (z + 0 + 0) P
  refine v_ieq_same (tgt := 1519) 591 lr_591 (by decide) ?_
  exact hN _ _ _ _ _ hI2 hC2 (hs1.kc hK2) (by omega) (by omega)
set_option maxHeartbeats 4000000 in
set_option maxRecDepth 4000 in
theorem lc_wrong {A d n k z : Nat} {N i : Int} {w : Nat → Int} {dy : Nat → Shp} {g : Hp} {P : Pst} (hs : Sq A N w g) (hw : ∀ q, i3 (w q)) (hi : 0 ≤ i ∧ i + 6 ≤ N) (hI : Inv g) (hC : Ca n dy g g) (hk : k + 1 ≤ 601024) (hz : z + 16 ≤ 7293034) (hN : Nx (d + 123) P A N w i k z) : V miL_law (d + 123) 975 (LW A i) [] n (W0 dy) g k z P := by
  have hn : 100 ≤ n := hC.1
  refine v_aload_n 594 1 lr_594 rfl rfl ?_
  refine l_arg 595 lr_595 lr_596 lr_597 lr_598 lr_599 hs (by omega) ?_
  refine v_callV (M' := miX11_wrong) (st := []) [I_ (w (i + 1).toNat)] 600 lr_600 lvL_108 ⟨by omega, by omega⟩ (wk1 dy) (by decide) rfl (show k + 0 ≤ 601024 by omega) (show z + 0 ≤ 7293034 by omega) ?_
  refine cs_wrong hC hI (hw _) (fun v a' g1 e hC1 hK => ?_)
  show V miL_law (d + 123) 985 (LW A i) [I_ v] n (W0 dy) g1 (k + 0) (z + 0) P
  have hs1 := hs.kr hK
  have hI1 := hI.kr hK
  have hn1 : 100 ≤ n := hC1.1
  refine v_aload_n 601 2 lr_601 rfl rfl ?_
  refine l_arg 602 lr_602 lr_603 lr_604 lr_605 lr_606 hs1 (by omega) ?_
  refine v_callV (M' := miX12_wrong) (st := [I_ v]) [I_ (w (i + 1).toNat)] 607 lr_607 lvL_111 ⟨by omega, by omega⟩ (wk53 dy) (by decide) rfl (show k + 0 + 0 ≤ 601024 by omega) (show z + 0 + 0 ≤ 7293034 by omega) ?_
  refine rs_wrong hn1 hI1 (hw _) (fun v' g2 b' e2 hb hk2 => ?_)
  obtain ⟨ev, hI2, hC2, hK2⟩ := jc (op := fun g => opWrong g (w (i + 1).toNat)) (fun g g1 h => opWrong_cg h _) (fun a h => inv_wrong h _) hI hK e hC1 e2 hb hk2
  subst ev
  show V miL_law (d + 123) 995 (LW A i) [I_ v', I_ v'] n (W0 dy) g2 (k + 0 + 0) (z + 0 + 0) P
  refine v_ieq_same (tgt := 1519) 608 lr_608 (by decide) ?_
  exact hN _ _ _ _ _ hI2 hC2 (hs1.kc hK2) (by omega) (by omega)
set_option maxHeartbeats 4000000 in
set_option maxRecDepth 4000 in
theorem lc_tie {A d n k z : Nat} {N i : Int} {w : Nat → Int} {dy : Nat → Shp} {g : Hp} {P : Pst} (hs : Sq A N w g) (hw : ∀ q, i3 (w q)) (hi : 0 ≤ i ∧ i + 6 ≤ N) (hI : Inv g) (hC : Ca n dy g g) (hk : k + 1 ≤ 601024) (hz : z + 16 ≤ 7293034) (hN : Nx (d + 123) P A N w i k z) : V miL_law (d + 123) 1000 (LW A i) [] n (W0 dy) g k z P := by
  have hn : 100 ≤ n := hC.1
  refine v_aload_n 611 1 lr_611 rfl rfl ?_
  refine l_arg 612 lr_612 lr_613 lr_614 lr_615 lr_616 hs (by omega) ?_
  refine l_arg 617 lr_617 lr_618 lr_619 lr_620 lr_621 hs (by omega) ?_
  refine v_callV (M' := miX11_tie) (st := []) [I_ (w (i + 1).toNat), I_ (w (i + 2).toNat)] 622 lr_622 lvL_112 ⟨by omega, by omega⟩ (wk1 dy) (by decide) rfl (show k + 0 ≤ 601024 by omega) (show z + 0 ≤ 7293034 by omega) ?_
  refine cs_tie hC hI (hw _) (hw _) (fun v a' g1 e hC1 hK => ?_)
  show V miL_law (d + 123) 1016 (LW A i) [L_ v] n (W0 dy) g1 (k + 0) (z + 0) P
  have hs1 := hs.kr hK
  have hI1 := hI.kr hK
  have hn1 : 100 ≤ n := hC1.1
  refine v_aload_n 623 2 lr_623 rfl rfl ?_
  refine l_arg 624 lr_624 lr_625 lr_626 lr_627 lr_628 hs1 (by omega) ?_
  refine l_arg 629 lr_629 lr_630 lr_631 lr_632 lr_633 hs1 (by omega) ?_
  refine v_callV (M' := miX12_tie) (st := [L_ v]) [I_ (w (i + 1).toNat), I_ (w (i + 2).toNat)] 634 lr_634 lvL_115 ⟨by omega, by omega⟩ (wk53 dy) (by decide) rfl (show k + 0 + 0 ≤ 601024 by omega) (show z + 0 + 0 ≤ 7293034 by omega) ?_
  refine rs_tie hn1 hI1 (hw _) (hw _) (fun v' g2 b' e2 hb hk2 => ?_)
  obtain ⟨ev, hI2, hC2, hK2⟩ := jc (op := fun g => opTie g (w (i + 1).toNat) (w (i + 2).toNat)) (fun g g1 h => opTie_cg h _ _) (fun a h => inv_tieop h _ _) hI hK e hC1 e2 hb hk2
  subst ev
  show V miL_law (d + 123) 1032 (LW A i) [L_ v', L_ v'] n (W0 dy) g2 (k + 0 + 0) (z + 0 + 0) P
  refine v_leq_same (tgt := 1519) 635 lr_635 lr_636 (by decide) ?_
  exact hN _ _ _ _ _ hI2 hC2 (hs1.kc hK2) (by omega) (by omega)
set_option maxHeartbeats 4000000 in
set_option maxRecDepth 4000 in
theorem lc_all {A d n k z : Nat} {N i : Int} {w : Nat → Int} {dy : Nat → Shp} {g : Hp} {P : Pst} (hs : Sq A N w g) (hw : ∀ q, i3 (w q)) (hi : 0 ≤ i ∧ i + 6 ≤ N) (hI : Inv g) (hC : Ca n dy g g) (hk : k + 1 ≤ 601024) (hz : z + 16 ≤ 7293034) (hN : Nx (d + 123) P A N w i k z) : V miL_law (d + 123) 1038 (LW A i) [] n (W0 dy) g k z P := by
  have hn : 100 ≤ n := hC.1
  refine v_aload_n 639 1 lr_639 rfl rfl ?_
  refine l_arg 640 lr_640 lr_641 lr_642 lr_643 lr_644 hs (by omega) ?_
  refine v_callV (M' := miX11_all) (st := []) [I_ (w (i + 1).toNat)] 645 lr_645 lvL_116 ⟨by omega, by omega⟩ (wk1 dy) (by decide) rfl (show k + 0 ≤ 601024 by omega) (show z + 0 ≤ 7293034 by omega) ?_
  refine cs_all hC hI (hw _) (fun v a' g1 e hC1 hK => ?_)
  show V miL_law (d + 123) 1048 (LW A i) [I_ v] n (W0 dy) g1 (k + 0) (z + 0) P
  have hs1 := hs.kr hK
  have hI1 := hI.kr hK
  have hn1 : 100 ≤ n := hC1.1
  refine v_aload_n 646 2 lr_646 rfl rfl ?_
  refine l_arg 647 lr_647 lr_648 lr_649 lr_650 lr_651 hs1 (by omega) ?_
  refine v_callV (M' := miX12_all) (st := [I_ v]) [I_ (w (i + 1).toNat)] 652 lr_652 lvL_119 ⟨by omega, by omega⟩ (wk53 dy) (by decide) rfl (show k + 0 + 0 ≤ 601024 by omega) (show z + 0 + 0 ≤ 7293034 by omega) ?_
  refine rs_all hn1 hI1 (hw _) (fun v' g2 b' e2 hb hk2 => ?_)
  obtain ⟨ev, hI2, hC2, hK2⟩ := jc (op := fun g => opAll g (w (i + 1).toNat)) (fun g g1 h => opAll_cg h _) (fun a h => inv_all h _) hI hK e hC1 e2 hb hk2
  subst ev
  show V miL_law (d + 123) 1058 (LW A i) [I_ v', I_ v'] n (W0 dy) g2 (k + 0 + 0) (z + 0 + 0) P
  refine v_ieq_same (tgt := 1519) 653 lr_653 (by decide) ?_
  exact hN _ _ _ _ _ hI2 hC2 (hs1.kc hK2) (by omega) (by omega)
set_option maxHeartbeats 4000000 in
set_option maxRecDepth 4000 in
theorem lc_reach {A d n k z : Nat} {N i : Int} {w : Nat → Int} {dy : Nat → Shp} {g : Hp} {P : Pst} (hs : Sq A N w g) (hw : ∀ q, i3 (w q)) (hi : 0 ≤ i ∧ i + 6 ≤ N) (hI : Inv g) (hC : Ca n dy g g) (hk : k + 1 ≤ 601024) (hz : z + 16 ≤ 7293034) (hN : Nx (d + 123) P A N w i k z) : V miL_law (d + 123) 1063 (LW A i) [] n (W0 dy) g k z P := by
  have hn : 100 ≤ n := hC.1
  refine v_aload_n 656 1 lr_656 rfl rfl ?_
  refine l_arg 657 lr_657 lr_658 lr_659 lr_660 lr_661 hs (by omega) ?_
  refine l_arg 662 lr_662 lr_663 lr_664 lr_665 lr_666 hs (by omega) ?_
  refine l_arg 667 lr_667 lr_668 lr_669 lr_670 lr_671 hs (by omega) ?_
  refine l_bool 672 lr_672 lr_673 lr_674 lr_675 (hw _) ?_
  refine v_callV (M' := miX11_reach) (st := []) [I_ (w (i + 1).toNat), I_ (w (i + 2).toNat), I_ (if (w (i + 3).toNat) = 0 then 0 else 1)] 676 lr_676 lvL_120 ⟨by omega, by omega⟩ (wk1 dy) (by decide) rfl (show k + 0 ≤ 601024 by omega) (show z + 0 ≤ 7293034 by omega) ?_
  refine cs_reach hC hI (hw _) (hw _) b01 (fun v a' g1 e hC1 hK => ?_)
  show V miL_law (d + 123) 1093 (LW A i) [I_ v] n (W0 dy) g1 (k + 0) (z + 0) P
  have hs1 := hs.kr hK
  have hI1 := hI.kr hK
  have hn1 : 100 ≤ n := hC1.1
  refine v_aload_n 677 2 lr_677 rfl rfl ?_
  refine l_arg 678 lr_678 lr_679 lr_680 lr_681 lr_682 hs1 (by omega) ?_
  refine l_arg 683 lr_683 lr_684 lr_685 lr_686 lr_687 hs1 (by omega) ?_
  refine l_arg 688 lr_688 lr_689 lr_690 lr_691 lr_692 hs1 (by omega) ?_
  refine l_bool 693 lr_693 lr_694 lr_695 lr_696 (hw _) ?_
  refine v_callV (M' := miX12_reach) (st := [I_ v]) [I_ (w (i + 1).toNat), I_ (w (i + 2).toNat), I_ (if (w (i + 3).toNat) = 0 then 0 else 1)] 697 lr_697 lvL_123 ⟨by omega, by omega⟩ (wk53 dy) (by decide) rfl (show k + 0 + 0 ≤ 601024 by omega) (show z + 0 + 0 ≤ 7293034 by omega) ?_
  refine rs_reach hn1 hI1 (hw _) (hw _) b01 (fun v' g2 b' e2 hb hk2 => ?_)
  obtain ⟨ev, hI2, hC2, hK2⟩ := jc (op := fun g => opReach g (w (i + 1).toNat) (w (i + 2).toNat) (if (w (i + 3).toNat) = 0 then 0 else 1)) (fun g g1 h => opReach_cg h _ _ _) (fun a h => inv_reach h _ _ _) hI hK e hC1 e2 hb hk2
  subst ev
  show V miL_law (d + 123) 1123 (LW A i) [I_ v', I_ v'] n (W0 dy) g2 (k + 0 + 0) (z + 0 + 0) P
  refine v_ieq_same (tgt := 1519) 698 lr_698 (by decide) ?_
  exact hN _ _ _ _ _ hI2 hC2 (hs1.kc hK2) (by omega) (by omega)
set_option maxHeartbeats 4000000 in
set_option maxRecDepth 4000 in
theorem lc_lowest {A d n k z : Nat} {N i : Int} {w : Nat → Int} {dy : Nat → Shp} {g : Hp} {P : Pst} (hs : Sq A N w g) (hw : ∀ q, i3 (w q)) (hi : 0 ≤ i ∧ i + 6 ≤ N) (hI : Inv g) (hC : Ca n dy g g) (hk : k + 1 ≤ 601024) (hz : z + 16 ≤ 7293034) (hN : Nx (d + 123) P A N w i k z) : V miL_law (d + 123) 1128 (LW A i) [] n (W0 dy) g k z P := by
  have hn : 100 ≤ n := hC.1
  refine v_aload_n 701 1 lr_701 rfl rfl ?_
  refine l_arg 702 lr_702 lr_703 lr_704 lr_705 lr_706 hs (by omega) ?_
  refine v_callV (M' := miX11_lowest) (st := []) [I_ (w (i + 1).toNat)] 707 lr_707 lvL_124 ⟨by omega, by omega⟩ (wk1 dy) (by decide) rfl (show k + 0 ≤ 601024 by omega) (show z + 0 ≤ 7293034 by omega) ?_
  refine cs_lowest hC hI (hw _) (fun v a' g1 e hC1 hK => ?_)
  show V miL_law (d + 123) 1138 (LW A i) [I_ v] n (W0 dy) g1 (k + 0) (z + 0) P
  have hs1 := hs.kr hK
  have hI1 := hI.kr hK
  have hn1 : 100 ≤ n := hC1.1
  refine v_aload_n 708 2 lr_708 rfl rfl ?_
  refine l_arg 709 lr_709 lr_710 lr_711 lr_712 lr_713 hs1 (by omega) ?_
  refine v_callV (M' := miX12_lowest) (st := [I_ v]) [I_ (w (i + 1).toNat)] 714 lr_714 lvL_127 ⟨by omega, by omega⟩ (wk53 dy) (by decide) rfl (show k + 0 + 0 ≤ 601024 by omega) (show z + 0 + 0 ≤ 7293034 by omega) ?_
  refine rs_lowest hn1 hI1 (hw _) (fun v' g2 b' e2 hb hk2 => ?_)
  obtain ⟨ev, hI2, hC2, hK2⟩ := jc (op := fun g => opLowest g (w (i + 1).toNat)) (fun g g1 h => opLowest_cg h _) (fun a h => inv_lowest h _) hI hK e hC1 e2 hb hk2
  subst ev
  show V miL_law (d + 123) 1148 (LW A i) [I_ v', I_ v'] n (W0 dy) g2 (k + 0 + 0) (z + 0 + 0) P
  refine v_ieq_same (tgt := 1519) 715 lr_715 (by decide) ?_
  exact hN _ _ _ _ _ hI2 hC2 (hs1.kc hK2) (by omega) (by omega)
set_option maxHeartbeats 4000000 in
set_option maxRecDepth 4000 in
theorem lc_clash {A d n k z : Nat} {N i : Int} {w : Nat → Int} {dy : Nat → Shp} {g : Hp} {P : Pst} (hs : Sq A N w g) (hw : ∀ q, i3 (w q)) (hi : 0 ≤ i ∧ i + 6 ≤ N) (hI : Inv g) (hC : Ca n dy g g) (hk : k + 1 ≤ 601024) (hz : z + 16 ≤ 7293034) (hN : Nx (d + 123) P A N w i k z) : V miL_law (d + 123) 1153 (LW A i) [] n (W0 dy) g k z P := by
  have hn : 100 ≤ n := hC.1
  refine v_aload_n 718 1 lr_718 rfl rfl ?_
  refine l_arg 719 lr_719 lr_720 lr_721 lr_722 lr_723 hs (by omega) ?_
  refine l_arg 724 lr_724 lr_725 lr_726 lr_727 lr_728 hs (by omega) ?_
  refine v_callV (M' := miX11_clash) (st := []) [I_ (w (i + 1).toNat), I_ (w (i + 2).toNat)] 729 lr_729 lvL_128 ⟨by omega, by omega⟩ (wk1 dy) (by decide) rfl (show k + 0 ≤ 601024 by omega) (show z + 0 ≤ 7293034 by omega) ?_
  refine cs_clash hC hI (hw _) (hw _) (fun v a' g1 e hC1 hK => ?_)
  show V miL_law (d + 123) 1169 (LW A i) [I_ v] n (W0 dy) g1 (k + 0) (z + 0) P
  have hs1 := hs.kr hK
  have hI1 := hI.kr hK
  have hn1 : 100 ≤ n := hC1.1
  refine v_aload_n 730 2 lr_730 rfl rfl ?_
  refine l_arg 731 lr_731 lr_732 lr_733 lr_734 lr_735 hs1 (by omega) ?_
  refine l_arg 736 lr_736 lr_737 lr_738 lr_739 lr_740 hs1 (by omega) ?_
  refine v_callV (M' := miX12_clash) (st := [I_ v]) [I_ (w (i + 1).toNat), I_ (w (i + 2).toNat)] 741 lr_741 lvL_131 ⟨by omega, by omega⟩ (wk53 dy) (by decide) rfl (show k + 0 + 0 ≤ 601024 by omega) (show z + 0 + 0 ≤ 7293034 by omega) ?_
  refine rs_clash hn1 hI1 (hw _) (hw _) (fun v' g2 b' e2 hb hk2 => ?_)
  obtain ⟨ev, hI2, hC2, hK2⟩ := jc (op := fun g => opClash g (w (i + 1).toNat) (w (i + 2).toNat)) (fun g g1 h => opClash_cg h _ _) (fun a h => inv_clash h _ _) hI hK e hC1 e2 hb hk2
  subst ev
  show V miL_law (d + 123) 1185 (LW A i) [I_ v', I_ v'] n (W0 dy) g2 (k + 0 + 0) (z + 0 + 0) P
  refine v_ieq_same (tgt := 1519) 742 lr_742 (by decide) ?_
  exact hN _ _ _ _ _ hI2 hC2 (hs1.kc hK2) (by omega) (by omega)
set_option maxHeartbeats 4000000 in
set_option maxRecDepth 4000 in
theorem lc_clashes {A d n k z : Nat} {N i : Int} {w : Nat → Int} {dy : Nat → Shp} {g : Hp} {P : Pst} (hs : Sq A N w g) (hw : ∀ q, i3 (w q)) (hi : 0 ≤ i ∧ i + 6 ≤ N) (hI : Inv g) (hC : Ca n dy g g) (hk : k + 1 ≤ 601024) (hz : z + 16 ≤ 7293034) (hN : Nx (d + 123) P A N w i k z) : V miL_law (d + 123) 1190 (LW A i) [] n (W0 dy) g k z P := by
  have hn : 100 ≤ n := hC.1
  refine v_aload_n 745 1 lr_745 rfl rfl ?_
  refine l_arg 746 lr_746 lr_747 lr_748 lr_749 lr_750 hs (by omega) ?_
  refine v_callV (M' := miX11_clashes) (st := []) [I_ (w (i + 1).toNat)] 751 lr_751 lvL_132 ⟨by omega, by omega⟩ (wk1 dy) (by decide) rfl (show k + 0 ≤ 601024 by omega) (show z + 0 ≤ 7293034 by omega) ?_
  refine cs_clashes hC hI (hw _) (fun v a' g1 e hC1 hK => ?_)
  show V miL_law (d + 123) 1200 (LW A i) [I_ v] n (W0 dy) g1 (k + 0) (z + 0) P
  have hs1 := hs.kr hK
  have hI1 := hI.kr hK
  have hn1 : 100 ≤ n := hC1.1
  refine v_aload_n 752 2 lr_752 rfl rfl ?_
  refine l_arg 753 lr_753 lr_754 lr_755 lr_756 lr_757 hs1 (by omega) ?_
  refine v_callV (M' := miX12_clashes) (st := [I_ v]) [I_ (w (i + 1).toNat)] 758 lr_758 lvL_135 ⟨by omega, by omega⟩ (wk53 dy) (by decide) rfl (show k + 0 + 0 ≤ 601024 by omega) (show z + 0 + 0 ≤ 7293034 by omega) ?_
  refine rs_clashes hn1 hI1 (hw _) (fun v' g2 b' e2 hb hk2 => ?_)
  obtain ⟨ev, hI2, hC2, hK2⟩ := jc (op := fun g => opClashes g (w (i + 1).toNat)) (fun g g1 h => opClashes_cg h _) (fun a h => inv_clashes h _) hI hK e hC1 e2 hb hk2
  subst ev
  show V miL_law (d + 123) 1210 (LW A i) [I_ v', I_ v'] n (W0 dy) g2 (k + 0 + 0) (z + 0 + 0) P
  refine v_ieq_same (tgt := 1519) 759 lr_759 (by decide) ?_
  exact hN _ _ _ _ _ hI2 hC2 (hs1.kc hK2) (by omega) (by omega)
set_option maxHeartbeats 4000000 in
set_option maxRecDepth 4000 in
theorem lc_clear {A d n k z : Nat} {N i : Int} {w : Nat → Int} {dy : Nat → Shp} {g : Hp} {P : Pst} (hs : Sq A N w g) (hw : ∀ q, i3 (w q)) (hi : 0 ≤ i ∧ i + 6 ≤ N) (hI : Inv g) (hC : Ca n dy g g) (hk : k + 1 ≤ 601024) (hz : z + 16 ≤ 7293034) (hN : Nx (d + 123) P A N w i k z) : V miL_law (d + 123) 1215 (LW A i) [] n (W0 dy) g k z P := by
  have hn : 100 ≤ n := hC.1
  refine v_aload_n 762 1 lr_762 rfl rfl ?_
  refine l_arg 763 lr_763 lr_764 lr_765 lr_766 lr_767 hs (by omega) ?_
  refine v_callV (M' := miX11_clear) (st := []) [I_ (w (i + 1).toNat)] 768 lr_768 lvL_136 ⟨by omega, by omega⟩ (wk1 dy) (by decide) rfl (show k + 0 ≤ 601024 by omega) (show z + 0 ≤ 7293034 by omega) ?_
  refine cs_clear hC hI (hw _) (fun v a' g1 e hC1 hK => ?_)
  show V miL_law (d + 123) 1225 (LW A i) [I_ v] n (W0 dy) g1 (k + 0) (z + 0) P
  have hs1 := hs.kr hK
  have hI1 := hI.kr hK
  have hn1 : 100 ≤ n := hC1.1
  refine v_aload_n 769 2 lr_769 rfl rfl ?_
  refine l_arg 770 lr_770 lr_771 lr_772 lr_773 lr_774 hs1 (by omega) ?_
  refine v_callV (M' := miX12_clear) (st := [I_ v]) [I_ (w (i + 1).toNat)] 775 lr_775 lvL_139 ⟨by omega, by omega⟩ (wk53 dy) (by decide) rfl (show k + 0 + 0 ≤ 601024 by omega) (show z + 0 + 0 ≤ 7293034 by omega) ?_
  refine rs_clear hn1 hI1 (hw _) (fun v' g2 b' e2 hb hk2 => ?_)
  obtain ⟨ev, hI2, hC2, hK2⟩ := jc (op := fun g => opClear g (w (i + 1).toNat)) (fun g g1 h => opClear_cg h _) (fun a h => inv_clear h _) hI hK e hC1 e2 hb hk2
  subst ev
  show V miL_law (d + 123) 1235 (LW A i) [I_ v', I_ v'] n (W0 dy) g2 (k + 0 + 0) (z + 0 + 0) P
  refine v_ieq_same (tgt := 1519) 776 lr_776 (by decide) ?_
  exact hN _ _ _ _ _ hI2 hC2 (hs1.kc hK2) (by omega) (by omega)
