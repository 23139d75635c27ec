/-! THE LAW: its cases -/
set_option maxHeartbeats 4000000 in
set_option maxRecDepth 4000 in
theorem lc_ways {A d n k z : Nat} {N i : Int} {w : Nat → Int} {dy : Nat → Shp} {g : Hp} {P : Pst} (hs : Sq A N w g) (hw : ∀ q, i3 (w q)) (hi : 0 ≤ i ∧ i + 6 ≤ N) (hI : Inv g) (hC : Ca n dy g g) (hk : k + 1 ≤ 601024) (hz : z + 16 ≤ 7293034) (hN : Nx (d + 123) P A N w i k z) : V miL_law (d + 123) 1240 (LW A i) [] n (W0 dy) g k z P := by
  have hn : 100 ≤ n := hC.1
  refine v_aload_n 779 1 lr_779 rfl rfl ?_
  refine l_arg 780 lr_780 lr_781 lr_782 lr_783 lr_784 hs (by omega) ?_
  refine l_arg 785 lr_785 lr_786 lr_787 lr_788 lr_789 hs (by omega) ?_
  refine v_callV (M' := miX11_ways) (st := []) [I_ (w (i + 1).toNat), I_ (w (i + 2).toNat)] 790 lr_790 lvL_140 ⟨by omega, by omega⟩ (wk1 dy) (by decide) rfl (show k + 0 ≤ 601024 by omega) (show z + 0 ≤ 7293034 by omega) ?_
  refine cs_ways hC hI (hw _) (hw _) (fun v a' g1 e hC1 hK => ?_)
  show V miL_law (d + 123) 1256 (LW A i) [I_ v] n (W0 dy) g1 (k + 0) (z + 0) P
  have hs1 := hs.kr hK
  have hI1 := hI.kr hK
  have hn1 : 100 ≤ n := hC1.1
  refine v_aload_n 791 2 lr_791 rfl rfl ?_
  refine l_arg 792 lr_792 lr_793 lr_794 lr_795 lr_796 hs1 (by omega) ?_
  refine l_arg 797 lr_797 lr_798 lr_799 lr_800 lr_801 hs1 (by omega) ?_
  refine v_callV (M' := miX12_ways) (st := [I_ v]) [I_ (w (i + 1).toNat), I_ (w (i + 2).toNat)] 802 lr_802 lvL_143 ⟨by omega, by omega⟩ (wk53 dy) (by decide) rfl (show k + 0 + 0 ≤ 601024 by omega) (show z + 0 + 0 ≤ 7293034 by omega) ?_
  refine rs_ways hn1 hI1 (hw _) (hw _) (fun v' g2 b' e2 hb hk2 => ?_)
  obtain ⟨ev, hI2, hC2, hK2⟩ := jd (op := fun g => opWays g (w (i + 1).toNat) (w (i + 2).toNat)) (fun g g1 h => opWays_cg h _ _) (fun a h => inv_ways h _ _) hI hK e hC1 e2 hb hk2
  subst ev
  show V miL_law (d + 123) 1272 (LW A i) [I_ v', I_ v'] n (W0 dy) g2 (k + 0 + 0) (z + 0 + 0) P
  refine v_ieq_same (tgt := 1519) 803 lr_803 (by decide) ?_
  exact hN _ _ _ _ _ hI2 hC2 (hs1.kc hK2) (by omega) (by omega)
set_option maxHeartbeats 4000000 in
set_option maxRecDepth 4000 in
theorem lc_fill {A d n k z : Nat} {N i : Int} {w : Nat → Int} {dy : Nat → Shp} {g : Hp} {P : Pst} (hs : Sq A N w g) (hw : ∀ q, i3 (w q)) (hi : 0 ≤ i ∧ i + 6 ≤ N) (hI : Inv g) (hC : Ca n dy g g) (hk : k + 1 ≤ 601024) (hz : z + 16 ≤ 7293034) (hN : Nx (d + 123) P A N w i k z) : V miL_law (d + 123) 1277 (LW A i) [] n (W0 dy) g k z P := by
  have hn : 100 ≤ n := hC.1
  refine v_aload_n 806 1 lr_806 rfl rfl ?_
  refine l_arg 807 lr_807 lr_808 lr_809 lr_810 lr_811 hs (by omega) ?_
  refine l_arg 812 lr_812 lr_813 lr_814 lr_815 lr_816 hs (by omega) ?_
  refine l_arg 817 lr_817 lr_818 lr_819 lr_820 lr_821 hs (by omega) ?_
  refine v_callV (M' := miX11_fill) (st := []) [I_ (w (i + 1).toNat), I_ (w (i + 2).toNat), I_ (w (i + 3).toNat)] 822 lr_822 lvL_144 ⟨by omega, by omega⟩ (wk1 dy) (by decide) rfl (show k + 0 ≤ 601024 by omega) (show z + 0 ≤ 7293034 by omega) ?_
  refine cs_fill hC hI (hw _) (hw _) (hw _) (fun v a' g1 e hC1 hK => ?_)
  show V miL_law (d + 123) 1299 (LW A i) [I_ v] n (W0 dy) g1 (k + 0) (z + 0) P
  have hs1 := hs.kr hK
  have hI1 := hI.kr hK
  have hn1 : 100 ≤ n := hC1.1
  refine v_aload_n 823 2 lr_823 rfl rfl ?_
  refine l_arg 824 lr_824 lr_825 lr_826 lr_827 lr_828 hs1 (by omega) ?_
  refine l_arg 829 lr_829 lr_830 lr_831 lr_832 lr_833 hs1 (by omega) ?_
  refine l_arg 834 lr_834 lr_835 lr_836 lr_837 lr_838 hs1 (by omega) ?_
  refine v_callV (M' := miX12_fill) (st := [I_ v]) [I_ (w (i + 1).toNat), I_ (w (i + 2).toNat), I_ (w (i + 3).toNat)] 839 lr_839 lvL_148 ⟨by omega, by omega⟩ (wk53 dy) (by decide) rfl (show k + 0 + 0 ≤ 601024 by omega) (show z + 0 + 0 ≤ 7293034 by omega) ?_
  refine rs_fill hn1 hI1 (hw _) (hw _) (hw _) (fun v' g2 b' e2 hb hk2 => ?_)
  obtain ⟨ev, hI2, hC2, hK2⟩ := jd (op := fun g => opFill g (w (i + 1).toNat) (w (i + 2).toNat) (w (i + 3).toNat)) (fun g g1 h => opFill_cg h _ _ _) (fun a h => inv_fill h _ _ _) hI hK e hC1 e2 hb hk2
  subst ev
  show V miL_law (d + 123) 1321 (LW A i) [I_ v', I_ v'] n (W0 dy) g2 (k + 0 + 0) (z + 0 + 0) P
  refine v_ieq_same (tgt := 1519) 840 lr_840 (by decide) ?_
  exact hN _ _ _ _ _ hI2 hC2 (hs1.kc hK2) (by omega) (by omega)
set_option maxHeartbeats 4000000 in
set_option maxRecDepth 4000 in
theorem lc_fewest {A d n k z : Nat} {N i : Int} {w : Nat → Int} {dy : Nat → Shp} {g : Hp} {P : Pst} (hs : Sq A N w g) (hw : ∀ q, i3 (w q)) (hi : 0 ≤ i ∧ i + 6 ≤ N) (hI : Inv g) (hC : Ca n dy g g) (hk : k + 1 ≤ 601024) (hz : z + 16 ≤ 7293034) (hN : Nx (d + 123) P A N w i k z) : V miL_law (d + 123) 1326 (LW A i) [] n (W0 dy) g k z P := by
  have hn : 100 ≤ n := hC.1
  refine v_aload_n 843 1 lr_843 rfl rfl ?_
  refine l_arg 844 lr_844 lr_845 lr_846 lr_847 lr_848 hs (by omega) ?_
  refine l_arg 849 lr_849 lr_850 lr_851 lr_852 lr_853 hs (by omega) ?_
  refine v_callV (M' := miX11_fewest) (st := []) [I_ (w (i + 1).toNat), I_ (w (i + 2).toNat)] 854 lr_854 lvL_149 ⟨by omega, by omega⟩ (wk1 dy) (by decide) rfl (show k + 0 ≤ 601024 by omega) (show z + 0 ≤ 7293034 by omega) ?_
  refine cs_fewest hC hI (hw _) (hw _) (fun v a' g1 e hC1 hK => ?_)
  show V miL_law (d + 123) 1342 (LW A i) [I_ v] n (W0 dy) g1 (k + 0) (z + 0) P
  have hs1 := hs.kr hK
  have hI1 := hI.kr hK
  have hn1 : 100 ≤ n := hC1.1
  refine v_aload_n 855 2 lr_855 rfl rfl ?_
  refine l_arg 856 lr_856 lr_857 lr_858 lr_859 lr_860 hs1 (by omega) ?_
  refine l_arg 861 lr_861 lr_862 lr_863 lr_864 lr_865 hs1 (by omega) ?_
  refine v_callV (M' := miX12_fewest) (st := [I_ v]) [I_ (w (i + 1).toNat), I_ (w (i + 2).toNat)] 866 lr_866 lvL_152 ⟨by omega, by omega⟩ (wk53 dy) (by decide) rfl (show k + 0 + 0 ≤ 601024 by omega) (show z + 0 + 0 ≤ 7293034 by omega) ?_
  refine rs_fewest hn1 hI1 (hw _) (hw _) (fun v' g2 b' e2 hb hk2 => ?_)
  obtain ⟨ev, hI2, hC2, hK2⟩ := jc (op := fun g => opFewest g (w (i + 1).toNat) (w (i + 2).toNat)) (fun g g1 h => opFewest_cg h _ _) (fun a h => inv_fewest h _ _) hI hK e hC1 e2 hb hk2
  subst ev
  show V miL_law (d + 123) 1358 (LW A i) [I_ v', I_ v'] n (W0 dy) g2 (k + 0 + 0) (z + 0 + 0) P
  refine v_ieq_same (tgt := 1519) 867 lr_867 (by decide) ?_
  exact hN _ _ _ _ _ hI2 hC2 (hs1.kc hK2) (by omega) (by omega)
set_option maxHeartbeats 4000000 in
set_option maxRecDepth 4000 in
theorem lc_suspect {A d n k z : Nat} {N i : Int} {w : Nat → Int} {dy : Nat → Shp} {g : Hp} {P : Pst} (hs : Sq A N w g) (hw : ∀ q, i3 (w q)) (hi : 0 ≤ i ∧ i + 6 ≤ N) (hI : Inv g) (hC : Ca n dy g g) (hk : k + 1 ≤ 601024) (hz : z + 16 ≤ 7293034) (hN : Nx (d + 123) P A N w i k z) : V miL_law (d + 123) 1363 (LW A i) [] n (W0 dy) g k z P := by
  have hn : 100 ≤ n := hC.1
  refine v_aload_n 870 1 lr_870 rfl rfl ?_
  refine l_arg 871 lr_871 lr_872 lr_873 lr_874 lr_875 hs (by omega) ?_
  refine v_callV (M' := miX11_suspect) (st := []) [I_ (w (i + 1).toNat)] 876 lr_876 lvL_153 ⟨by omega, by omega⟩ (wk1 dy) (by decide) rfl (show k + 0 ≤ 601024 by omega) (show z + 0 ≤ 7293034 by omega) ?_
  refine cs_suspect hC hI (hw _) ?_
  show V miL_law (d + 123) 1373 (LW A i) [I_ (if (w (i + 1).toNat) < 0 ∨ g 53 26 ≤ (w (i + 1).toNat) then -1 else g 77 (w (i + 1).toNat).toNat)] n (W0 dy) g (k + 0) (z + 0) P
  have hn1 := hn
  refine v_aload_n 877 2 lr_877 rfl rfl ?_
  refine l_arg 878 lr_878 lr_879 lr_880 lr_881 lr_882 hs (by omega) ?_
  refine v_callV (M' := miX12_suspect) (st := [I_ (if (w (i + 1).toNat) < 0 ∨ g 53 26 ≤ (w (i + 1).toNat) then -1 else g 77 (w (i + 1).toNat).toNat)]) [I_ (w (i + 1).toNat)] 883 lr_883 lvL_156 ⟨by omega, by omega⟩ (wk53 dy) (by decide) rfl (show k + 0 + 0 ≤ 601024 by omega) (show z + 0 + 0 ≤ 7293034 by omega) ?_
  refine rs_suspect hn hI.2.2.2.2.1.1.2 (hw _) ?_
  show V miL_law (d + 123) 1383 (LW A i) [I_ (if (w (i + 1).toNat) < 0 ∨ g 53 26 ≤ (w (i + 1).toNat) then -1 else g 77 (w (i + 1).toNat).toNat), I_ (if (w (i + 1).toNat) < 0 ∨ g 53 26 ≤ (w (i + 1).toNat) then -1 else g 77 (w (i + 1).toNat).toNat)] n (W0 dy) (up2 g 53 1 0) (k + 0 + 0) (z + 0 + 0) P
  refine v_ieq_same (tgt := 1519) 884 lr_884 (by decide) ?_
  exact hN _ _ _ _ _ (hI.cg (rz_sk rfl)) (Ca.k1 hC) (hs.kc (kk1 g)) (by omega) (by omega)
set_option maxHeartbeats 4000000 in
set_option maxRecDepth 4000 in
theorem lc_cut {A d n k z : Nat} {N i : Int} {w : Nat → Int} {dy : Nat → Shp} {g : Hp} {P : Pst} (hs : Sq A N w g) (hw : ∀ q, i3 (w q)) (hi : 0 ≤ i ∧ i + 6 ≤ N) (hI : Inv g) (hC : Ca n dy g g) (hk : k + 1 ≤ 601024) (hz : z + 16 ≤ 7293034) (hN : Nx (d + 123) P A N w i k z) : V miL_law (d + 123) 1388 (LW A i) [] n (W0 dy) g k z P := by
  have hn : 100 ≤ n := hC.1
  refine v_aload_n 887 1 lr_887 rfl rfl ?_
  refine v_callV (M' := miX11_cut) (st := []) [] 888 lr_888 lvL_157 ⟨by omega, by omega⟩ (wk1 dy) (by decide) rfl (show k + 0 ≤ 601024 by omega) (show z + 0 ≤ 7293034 by omega) ?_
  refine cs_cut hC hI  (fun v a' g1 e hC1 hK => ?_)
  show V miL_law (d + 123) 1392 (LW A i) [I_ v] n (W0 dy) g1 (k + 0) (z + 0) P
  have hs1 := hs.kr hK
  have hI1 := hI.kr hK
  have hn1 : 100 ≤ n := hC1.1
  refine v_aload_n 889 2 lr_889 rfl rfl ?_
  refine v_callV (M' := miX12_cut_) (st := [I_ v]) [] 890 lr_890 lvL_160 ⟨by omega, by omega⟩ (wk53 dy) (by decide) rfl (show k + 0 + 0 ≤ 601024 by omega) (show z + 0 + 0 ≤ 7293034 by omega) ?_
  refine rs_cut hn1 (hI1.cg (zz0 _))  (fun v' g2 e2 => ?_)
  obtain ⟨ev, hI2, hC2, hK2⟩ := ja (op := fun g => opCut g ) (fun g g1 h => opCut_cg h ) (fun g => opCut_kc g) (fun a h => inv_cut h ) hI hK e hC1 e2
  subst ev
  show V miL_law (d + 123) 1396 (LW A i) [I_ v', I_ v'] n (W0 dy) g2 (k + 0 + 0) (z + 0 + 0) P
  refine v_ieq_same (tgt := 1519) 891 lr_891 (by decide) ?_
  exact hN _ _ _ _ _ hI2 hC2 (hs1.kc hK2) (by omega) (by omega)
set_option maxHeartbeats 4000000 in
set_option maxRecDepth 4000 in
theorem lc_same {A d n k z : Nat} {N i : Int} {w : Nat → Int} {dy : Nat → Shp} {g : Hp} {P : Pst} (hs : Sq A N w g) (hw : ∀ q, i3 (w q)) (hi : 0 ≤ i ∧ i + 6 ≤ N) (hI : Inv g) (hC : Ca n dy g g) (hk : k + 1 ≤ 601024) (hz : z + 16 ≤ 7293034) (hN : Nx (d + 123) P A N w i k z) : V miL_law (d + 123) 1401 (LW A i) [] n (W0 dy) g k z P := by
  have hn : 100 ≤ n := hC.1
  refine v_aload_n 894 1 lr_894 rfl rfl ?_
  refine l_arg 895 lr_895 lr_896 lr_897 lr_898 lr_899 hs (by omega) ?_
  refine l_arg 900 lr_900 lr_901 lr_902 lr_903 lr_904 hs (by omega) ?_
  refine v_callV (M' := miX11_same) (st := []) [I_ (w (i + 1).toNat), I_ (w (i + 2).toNat)] 905 lr_905 lvL_161 ⟨by omega, by omega⟩ (wk1 dy) (by decide) rfl (show k + 0 ≤ 601024 by omega) (show z + 0 ≤ 7293034 by omega) ?_
  refine cs_same hC hI (hw _) (hw _) (fun v a' g1 e hC1 hK => ?_)
  show V miL_law (d + 123) 1417 (LW A i) [I_ v] n (W0 dy) g1 (k + 0) (z + 0) P
  have hs1 := hs.kr hK
  have hI1 := hI.kr hK
  have hn1 : 100 ≤ n := hC1.1
  refine v_aload_n 906 2 lr_906 rfl rfl ?_
  refine l_arg 907 lr_907 lr_908 lr_909 lr_910 lr_911 hs1 (by omega) ?_
  refine l_arg 912 lr_912 lr_913 lr_914 lr_915 lr_916 hs1 (by omega) ?_
  refine v_callV (M' := miX12_same) (st := [I_ v]) [I_ (w (i + 1).toNat), I_ (w (i + 2).toNat)] 917 lr_917 lvL_164 ⟨by omega, by omega⟩ (wk53 dy) (by decide) rfl (show k + 0 + 0 ≤ 601024 by omega) (show z + 0 + 0 ≤ 7293034 by omega) ?_
  refine rs_same hn1 hI1 (hw _) (hw _) (fun v' g2 b' e2 hb hk2 => ?_)
  obtain ⟨ev, hI2, hC2, hK2⟩ := jc (op := fun g => opSame g (w (i + 1).toNat) (w (i + 2).toNat)) (fun g g1 h => opSame_cg h _ _) (fun a h => inv_same h _ _) hI hK e hC1 e2 hb hk2
  subst ev
  show V miL_law (d + 123) 1433 (LW A i) [I_ v', I_ v'] n (W0 dy) g2 (k + 0 + 0) (z + 0 + 0) P
  refine v_ieq_same (tgt := 1519) 918 lr_918 (by decide) ?_
  exact hN _ _ _ _ _ hI2 hC2 (hs1.kc hK2) (by omega) (by omega)
set_option maxHeartbeats 4000000 in
set_option maxRecDepth 4000 in
theorem lc_show {A d n k z : Nat} {N i : Int} {w : Nat → Int} {dy : Nat → Shp} {g : Hp} {P : Pst} (hs : Sq A N w g) (hw : ∀ q, i3 (w q)) (hi : 0 ≤ i ∧ i + 6 ≤ N) (hI : Inv g) (hC : Ca n dy g g) (hk : k + 1 ≤ 601024) (hz : z + 16 ≤ 7293034) (hN : Nx (d + 123) P A N w i k z) : V miL_law (d + 123) 1438 (LW A i) [] n (W0 dy) g k z P := by
  have hn : 100 ≤ n := hC.1
  refine v_aload_n 921 1 lr_921 rfl rfl ?_
  refine l_arg 922 lr_922 lr_923 lr_924 lr_925 lr_926 hs (by omega) ?_
  refine v_callV (M' := miX11_show) (st := []) [I_ (w (i + 1).toNat)] 927 lr_927 lvL_165 ⟨by omega, by omega⟩ (wk1 dy) (by decide) rfl (show k + 0 ≤ 601024 by omega) (show z + 0 ≤ 7293034 by omega) ?_
  refine cs_show hC hI (hw _) (fun v a' g1 e hC1 hK => ?_)
  show V miL_law (d + 123) 1448 (LW A i) [I_ v] n (W0 dy) g1 (k + 0) (z + 0) P
  have hs1 := hs.kr hK
  have hI1 := hI.kr hK
  have hn1 : 100 ≤ n := hC1.1
  refine v_aload_n 928 2 lr_928 rfl rfl ?_
  refine l_arg 929 lr_929 lr_930 lr_931 lr_932 lr_933 hs1 (by omega) ?_
  refine v_callV (M' := miX12_show) (st := [I_ v]) [I_ (w (i + 1).toNat)] 934 lr_934 lvL_168 ⟨by omega, by omega⟩ (wk53 dy) (by decide) rfl (show k + 0 + 0 ≤ 601024 by omega) (show z + 0 + 0 ≤ 7293034 by omega) ?_
  refine rs_show hn1 hI1 (hw _) (fun v' g2 b' e2 hb hk2 => ?_)
  obtain ⟨ev, hI2, hC2, hK2⟩ := jc (op := fun g => opShow g (w (i + 1).toNat)) (fun g g1 h => opShow_cg h _) (fun a h => inv_show h _ (hw _)) hI hK e hC1 e2 hb hk2
  subst ev
  show V miL_law (d + 123) 1458 (LW A i) [I_ v', I_ v'] n (W0 dy) g2 (k + 0 + 0) (z + 0 + 0) P
  refine v_ieq_same (tgt := 1519) 935 lr_935 (by decide) ?_
  exact hN _ _ _ _ _ hI2 hC2 (hs1.kc hK2) (by omega) (by omega)
