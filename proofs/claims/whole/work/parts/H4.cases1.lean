/-! THE LAW: its cases -/
theorem b01 {x : Int} : i3 (if x = 0 then 0 else 1) := by unfold i3; split <;> omega
theorem zz0 (g : Hp) : rz (up2 (up2 g 53 1 0) 53 0 0) = rz (up2 g 53 0 0) := zz2 (Kr.refl g)
theorem Inv.lk60 {g : Hp} (hI : Inv g) : ∀ k : Nat, (k : Int) < g 53 5 → g 66 k < 60 ∧ g 67 k < 60 := fun k hk => by
  have h1 := (hI.2.2.1 k hk).1.2.2.2.1.2.1
  have h2 := (hI.2.2.1 k hk).1.2.2.2.2.2.1
  have h3 := hI.1.2
  exact ⟨by omega, by omega⟩
theorem Ca.k1 {n : Nat} {dy : Nat → Shp} {g : Hp} (hC : Ca n dy g g) : Ca n dy (up2 g 53 1 0) (up2 g 53 1 0) := Ca.cg (rz_sk rfl) (hC.keep (fun i q hi => kk1 g i q (by unfold cl at hi; omega)))
set_option maxHeartbeats 4000000 in
set_option maxRecDepth 4000 in
theorem lc_status {A d n k z : Nat} {N i : Int} {w : Nat → Int} {dy : Nat → Shp} {g : Hp} {P : Pst} (hs : Sq A N w g) (hw : ∀ q, i3 (w q)) (hi : 0 ≤ i ∧ i + 6 ≤ N) (hI : Inv g) (hC : Ca n dy g g) (hk : k + 1 ≤ 601024) (hz : z + 16 ≤ 7293034) (hN : Nx (d + 123) P A N w i k z) : V miL_law (d + 123) 196 (LW A i) [] n (W0 dy) g k z P := by
  have hn : 100 ≤ n := hC.1
  refine v_aload_n 25 1 lr_25 rfl rfl ?_
  refine v_callV (M' := miX11_status) (st := []) [] 26 lr_26 lvL_19 ⟨by omega, by omega⟩ (wk1 dy) (by decide) rfl (show k + 0 ≤ 601024 by omega) (show z + 0 ≤ 7293034 by omega) ?_
  refine cs_status hC ?_
  show V miL_law (d + 123) 200 (LW A i) [I_ (g 53 0)] n (W0 dy) g (k + 0) (z + 0) P
  have hn1 := hn
  refine v_aload_n 27 2 lr_27 rfl rfl ?_
  refine v_callV (M' := miX12_status) (st := [I_ (g 53 0)]) [] 28 lr_28 lvL_23 ⟨by omega, by omega⟩ (wk53 dy) (by decide) rfl (show k + 0 + 0 ≤ 601024 by omega) (show z + 0 + 0 ≤ 7293034 by omega) ?_
  refine wX12_status hn ?_
  show V miL_law (d + 123) 204 (LW A i) [I_ (g 53 0), I_ (g 53 0)] n (W0 dy) (up2 g 53 1 0) (k + 0 + 0) (z + 0 + 0) P
  refine v_ieq_same (tgt := 1519) 29 lr_29 (by decide) ?_
  exact hN _ _ _ _ _ (hI.cg (rz_sk rfl)) (Ca.k1 hC) (hs.kc (kk1 g)) (by omega) (by omega)
set_option maxHeartbeats 4000000 in
set_option maxRecDepth 4000 in
theorem lc_tray {A d n k z : Nat} {N i : Int} {w : Nat → Int} {dy : Nat → Shp} {g : Hp} {P : Pst} (hs : Sq A N w g) (hw : ∀ q, i3 (w q)) (hi : 0 ≤ i ∧ i + 6 ≤ N) (hI : Inv g) (hC : Ca n dy g g) (hk : k + 1 ≤ 601024) (hz : z + 16 ≤ 7293034) (hN : Nx (d + 123) P A N w i k z) : V miL_law (d + 123) 209 (LW A i) [] n (W0 dy) g k z P := by
  have hn : 100 ≤ n := hC.1
  refine v_aload_n 32 1 lr_32 rfl rfl ?_
  refine l_arg 33 lr_33 lr_34 lr_35 lr_36 lr_37 hs (by omega) ?_
  refine l_arg 38 lr_38 lr_39 lr_40 lr_41 lr_42 hs (by omega) ?_
  refine l_arg 43 lr_43 lr_44 lr_45 lr_46 lr_47 hs (by omega) ?_
  refine v_callV (M' := miX11_tray) (st := []) [I_ (w (i + 1).toNat), I_ (w (i + 2).toNat), I_ (w (i + 3).toNat)] 48 lr_48 lvL_24 ⟨by omega, by omega⟩ (wk1 dy) (by decide) rfl (show k + 0 ≤ 601024 by omega) (show z + 0 ≤ 7293034 by omega) ?_
  refine cs_tray hC hI (hw _) (hw _) (hw _) (fun v a' g1 e hC1 hK => ?_)
  show V miL_law (d + 123) 231 (LW A i) [I_ v] n (W0 dy) g1 (k + 0) (z + 0) P
  have hs1 := hs.kr hK
  have hI1 := hI.kr hK
  have hn1 : 100 ≤ n := hC1.1
  refine v_aload_n 49 2 lr_49 rfl rfl ?_
  refine l_arg 50 lr_50 lr_51 lr_52 lr_53 lr_54 hs1 (by omega) ?_
  refine l_arg 55 lr_55 lr_56 lr_57 lr_58 lr_59 hs1 (by omega) ?_
  refine l_arg 60 lr_60 lr_61 lr_62 lr_63 lr_64 hs1 (by omega) ?_
  refine v_callV (M' := miX12_tray) (st := [I_ v]) [I_ (w (i + 1).toNat), I_ (w (i + 2).toNat), I_ (w (i + 3).toNat)] 65 lr_65 lvL_28 ⟨by omega, by omega⟩ (wk53 dy) (by decide) rfl (show k + 0 + 0 ≤ 601024 by omega) (show z + 0 + 0 ≤ 7293034 by omega) ?_
  refine rs_tray hn1 (hw _) (hw _) (hw _) (fun v' g2 e2 => ?_)
  obtain ⟨ev, hI2, hC2, hK2⟩ := ja (op := fun g => opTray g (w (i + 1).toNat) (w (i + 2).toNat) (w (i + 3).toNat)) (fun g g1 h => opTray_cg h _ _ _) (fun g => opTray_kc g _ _ _) (fun a h => inv_tray h _ _ _) hI hK e hC1 e2
  subst ev
  show V miL_law (d + 123) 253 (LW A i) [I_ v', I_ v'] n (W0 dy) g2 (k + 0 + 0) (z + 0 + 0) P
  refine v_ieq_same (tgt := 1519) 66 lr_66 (by decide) ?_
  exact hN _ _ _ _ _ hI2 hC2 (hs1.kc hK2) (by omega) (by omega)
set_option maxHeartbeats 4000000 in
set_option maxRecDepth 4000 in
theorem lc_write {A d n k z : Nat} {N i : Int} {w : Nat → Int} {dy : Nat → Shp} {g : Hp} {P : Pst} (hs : Sq A N w g) (hw : ∀ q, i3 (w q)) (hi : 0 ≤ i ∧ i + 6 ≤ N) (hI : Inv g) (hC : Ca n dy g g) (hk : k + 1 ≤ 601024) (hz : z + 16 ≤ 7293034) (hN : Nx (d + 123) P A N w i k z) : V miL_law (d + 123) 258 (LW A i) [] n (W0 dy) g k z P := by
  have hn : 100 ≤ n := hC.1
  refine v_aload_n 69 1 lr_69 rfl rfl ?_
  refine l_arg 70 lr_70 lr_71 lr_72 lr_73 lr_74 hs (by omega) ?_
  refine l_arg 75 lr_75 lr_76 lr_77 lr_78 lr_79 hs (by omega) ?_
  refine l_arg 80 lr_80 lr_81 lr_82 lr_83 lr_84 hs (by omega) ?_
  refine v_i2l 85 lr_85 (hw _) ?_
  refine v_bipush 86 lr_86 (by decide) ?_
  refine v_lshl 87 lr_87 ?_
  refine l_arg 88 lr_88 lr_89 lr_90 lr_91 lr_92 hs (by omega) ?_
  refine v_i2l 93 lr_93 (hw _) ?_
  refine v_ldc2 (v := 4294967295) 94 lr_94 (tbG_in (List.mem_append_right _ (List.mem_of_getElem? (i := 1680) (by decide +kernel))) rfl) ?_
  refine v_land 95 lr_95 ?_
  refine v_lor 96 lr_96 ?_
  refine v_callV (M' := miX11_write) (st := []) [I_ (w (i + 1).toNat), I_ (w (i + 2).toNat), L_ (or6 (shl6 (w (i + 3).toNat) 32) (and6 (w (i + 4).toNat) 4294967295))] 97 lr_97 lvL_31 ⟨by omega, by omega⟩ (wk1 dy) (by decide) rfl (show k + 0 ≤ 601024 by omega) (show z + 0 ≤ 7293034 by omega) ?_
  refine cs_write hC hI (hw _) (hw _) (or6_r _ _) (fun v a' g1 e hC1 hK => ?_)
  show V miL_law (d + 123) 296 (LW A i) [I_ v] n (W0 dy) g1 (k + 0) (z + 0) P
  have hs1 := hs.kr hK
  have hI1 := hI.kr hK
  have hn1 : 100 ≤ n := hC1.1
  refine v_rng (fun hr => ?_)
  refine v_aload_n 98 2 lr_98 rfl rfl ?_
  refine l_arg 99 lr_99 lr_100 lr_101 lr_102 lr_103 hs1 (by omega) ?_
  refine l_arg 104 lr_104 lr_105 lr_106 lr_107 lr_108 hs1 (by omega) ?_
  refine l_arg 109 lr_109 lr_110 lr_111 lr_112 lr_113 hs1 (by omega) ?_
  refine v_i2l 114 lr_114 (hw _) ?_
  refine v_bipush 115 lr_115 (by decide) ?_
  refine v_lshl 116 lr_116 ?_
  refine l_arg 117 lr_117 lr_118 lr_119 lr_120 lr_121 hs1 (by omega) ?_
  refine v_i2l 122 lr_122 (hw _) ?_
  refine v_ldc2 (v := 4294967295) 123 lr_123 (tbG_in (List.mem_append_right _ (List.mem_of_getElem? (i := 1680) (by decide +kernel))) rfl) ?_
  refine v_land 124 lr_124 ?_
  refine v_lor 125 lr_125 ?_
  refine v_callV (M' := miX12_write) (st := [I_ v]) [I_ (w (i + 1).toNat), I_ (w (i + 2).toNat), L_ (or6 (shl6 (w (i + 3).toNat) 32) (and6 (w (i + 4).toNat) 4294967295))] 126 lr_126 lvL_35 ⟨by omega, by omega⟩ (wk53 dy) (by decide) rfl (show k + 0 + 0 ≤ 601024 by omega) (show z + 0 + 0 ≤ 7293034 by omega) ?_
  refine rs_write hn1 (fun t ht => ⟨hI1.t16 t ht, rI hr (a := 54) (q := t) (t := 13) ⟨by omega, by omega⟩ rfl rfl rfl⟩) (hw _) (hw _) (or6_r _ _) (fun v' g2 e2 => ?_)
  obtain ⟨ev, hI2, hC2, hK2⟩ := jb (op := fun g => opWrite g (w (i + 1).toNat) (w (i + 2).toNat) (or6 (shl6 (w (i + 3).toNat) 32) (and6 (w (i + 4).toNat) 4294967295))) (fun g g1 h => opWrite_cg h _ _ _) (fun g => opWrite_kc g _ _ _) (fun a h => inv_write h _ _ _) hI hK e hC1 e2
  subst ev
  show V miL_law (d + 123) 334 (LW A i) [I_ v', I_ v'] n (W0 dy) g2 (k + 0 + 0) (z + 0 + 0) P
  refine v_ieq_same (tgt := 1519) 127 lr_127 (by decide) ?_
  exact hN _ _ _ _ _ hI2 hC2 (hs1.kc hK2) (by omega) (by omega)
set_option maxHeartbeats 4000000 in
set_option maxRecDepth 4000 in
theorem lc_read {A d n k z : Nat} {N i : Int} {w : Nat → Int} {dy : Nat → Shp} {g : Hp} {P : Pst} (hs : Sq A N w g) (hw : ∀ q, i3 (w q)) (hi : 0 ≤ i ∧ i + 6 ≤ N) (hI : Inv g) (hC : Ca n dy g g) (hk : k + 1 ≤ 601024) (hz : z + 16 ≤ 7293034) (hN : Nx (d + 123) P A N w i k z) : V miL_law (d + 123) 339 (LW A i) [] n (W0 dy) g k z P := by
  have hn : 100 ≤ n := hC.1
  refine v_aload_n 130 1 lr_130 rfl rfl ?_
  refine l_arg 131 lr_131 lr_132 lr_133 lr_134 lr_135 hs (by omega) ?_
  refine l_arg 136 lr_136 lr_137 lr_138 lr_139 lr_140 hs (by omega) ?_
  refine v_callV (M' := miX11_read) (st := []) [I_ (w (i + 1).toNat), I_ (w (i + 2).toNat)] 141 lr_141 lvL_36 ⟨by omega, by omega⟩ (wk1 dy) (by decide) rfl (show k + 0 ≤ 601024 by omega) (show z + 0 ≤ 7293034 by omega) ?_
  refine cs_read hC hI (hw _) (hw _) (fun v a' g1 e hC1 hK => ?_)
  show V miL_law (d + 123) 355 (LW A i) [L_ v] n (W0 dy) g1 (k + 0) (z + 0) P
  have hs1 := hs.kr hK
  have hI1 := hI.kr hK
  have hn1 : 100 ≤ n := hC1.1
  refine v_aload_n 142 2 lr_142 rfl rfl ?_
  refine l_arg 143 lr_143 lr_144 lr_145 lr_146 lr_147 hs1 (by omega) ?_
  refine l_arg 148 lr_148 lr_149 lr_150 lr_151 lr_152 hs1 (by omega) ?_
  refine v_callV (M' := miX12_read) (st := [L_ v]) [I_ (w (i + 1).toNat), I_ (w (i + 2).toNat)] 153 lr_153 lvL_40 ⟨by omega, by omega⟩ (wk53 dy) (by decide) rfl (show k + 0 + 0 ≤ 601024 by omega) (show z + 0 + 0 ≤ 7293034 by omega) ?_
  refine rs_read hn1 hI1.t16 (hw _) (hw _) (fun v' g2 e2 => ?_)
  obtain ⟨ev, hI2, hC2, hK2⟩ := jb (op := fun g => opRead g (w (i + 1).toNat) (w (i + 2).toNat)) (fun g g1 h => opRead_cg h _ _) (fun g => opRead_kc g _ _) (fun a h => inv_read h _ _) hI hK e hC1 e2
  subst ev
  show V miL_law (d + 123) 371 (LW A i) [L_ v', L_ v'] n (W0 dy) g2 (k + 0 + 0) (z + 0 + 0) P
  refine v_leq_same (tgt := 1519) 154 lr_154 lr_155 (by decide) ?_
  exact hN _ _ _ _ _ hI2 hC2 (hs1.kc hK2) (by omega) (by omega)
set_option maxHeartbeats 4000000 in
set_option maxRecDepth 4000 in
theorem lc_pour {A d n k z : Nat} {N i : Int} {w : Nat → Int} {dy : Nat → Shp} {g : Hp} {P : Pst} (hs : Sq A N w g) (hw : ∀ q, i3 (w q)) (hi : 0 ≤ i ∧ i + 6 ≤ N) (hI : Inv g) (hC : Ca n dy g g) (hk : k + 1 ≤ 601024) (hz : z + 16 ≤ 7293034) (hN : Nx (d + 123) P A N w i k z) : V miL_law (d + 123) 377 (LW A i) [] n (W0 dy) g k z P := by
  have hn : 100 ≤ n := hC.1
  refine v_aload_n 158 1 lr_158 rfl rfl ?_
  refine l_arg 159 lr_159 lr_160 lr_161 lr_162 lr_163 hs (by omega) ?_
  refine l_arg 164 lr_164 lr_165 lr_166 lr_167 lr_168 hs (by omega) ?_
  refine l_arg 169 lr_169 lr_170 lr_171 lr_172 lr_173 hs (by omega) ?_
  refine l_arg 174 lr_174 lr_175 lr_176 lr_177 lr_178 hs (by omega) ?_
  refine l_arg 179 lr_179 lr_180 lr_181 lr_182 lr_183 hs (by omega) ?_
  refine v_callV (M' := miX11_pour) (st := []) [I_ (w (i + 1).toNat), I_ (w (i + 2).toNat), I_ (w (i + 3).toNat), I_ (w (i + 4).toNat), I_ (w (i + 5).toNat)] 184 lr_184 lvL_41 ⟨by omega, by omega⟩ (wk1 dy) (by decide) rfl (show k + 0 ≤ 601024 by omega) (show z + 0 ≤ 7293034 by omega) ?_
  refine cs_pour hC hI (hw _) (hw _) (hw _) (hw _) (hw _) (fun v a' g1 e hC1 hK => ?_)
  show V miL_law (d + 123) 411 (LW A i) [I_ v] n (W0 dy) g1 (k + 0) (z + 0) P
  have hs1 := hs.kr hK
  have hI1 := hI.kr hK
  have hn1 : 100 ≤ n := hC1.1
  refine v_aload_n 185 2 lr_185 rfl rfl ?_
  refine l_arg 186 lr_186 lr_187 lr_188 lr_189 lr_190 hs1 (by omega) ?_
  refine l_arg 191 lr_191 lr_192 lr_193 lr_194 lr_195 hs1 (by omega) ?_
  refine l_arg 196 lr_196 lr_197 lr_198 lr_199 lr_200 hs1 (by omega) ?_
  refine l_arg 201 lr_201 lr_202 lr_203 lr_204 lr_205 hs1 (by omega) ?_
  refine l_arg 206 lr_206 lr_207 lr_208 lr_209 lr_210 hs1 (by omega) ?_
  refine v_callV (M' := miX12_pour) (st := [I_ v]) [I_ (w (i + 1).toNat), I_ (w (i + 2).toNat), I_ (w (i + 3).toNat), I_ (w (i + 4).toNat), I_ (w (i + 5).toNat)] 211 lr_211 lvL_45 ⟨by omega, by omega⟩ (wk53 dy) (by decide) rfl (show k + 0 + 0 ≤ 601024 by omega) (show z + 0 + 0 ≤ 7293034 by omega) ?_
  refine rs_pour hn1 hI1 (hw _) (hw _) (hw _) (hw _) (hw _) (fun v' g2 e2 => ?_)
  obtain ⟨ev, hI2, hC2, hK2⟩ := ja (op := fun g => opPour g (w (i + 1).toNat) (w (i + 2).toNat) (w (i + 3).toNat) (w (i + 4).toNat) (w (i + 5).toNat)) (fun g g1 h => opPour_cg h _ _ _ _ _) (fun g => opPour_kc g _ _ _ _ _) (fun a h => inv_pour h _ _ _ _ _) hI hK e hC1 e2
  subst ev
  show V miL_law (d + 123) 445 (LW A i) [I_ v', I_ v'] n (W0 dy) g2 (k + 0 + 0) (z + 0 + 0) P
  refine v_ieq_same (tgt := 1519) 212 lr_212 (by decide) ?_
  exact hN _ _ _ _ _ hI2 hC2 (hs1.kc hK2) (by omega) (by omega)
set_option maxHeartbeats 4000000 in
set_option maxRecDepth 4000 in
theorem lc_weight {A d n k z : Nat} {N i : Int} {w : Nat → Int} {dy : Nat → Shp} {g : Hp} {P : Pst} (hs : Sq A N w g) (hw : ∀ q, i3 (w q)) (hi : 0 ≤ i ∧ i + 6 ≤ N) (hI : Inv g) (hC : Ca n dy g g) (hk : k + 1 ≤ 601024) (hz : z + 16 ≤ 7293034) (hN : Nx (d + 123) P A N w i k z) : V miL_law (d + 123) 450 (LW A i) [] n (W0 dy) g k z P := by
  have hn : 100 ≤ n := hC.1
  refine v_aload_n 215 1 lr_215 rfl rfl ?_
  refine l_arg 216 lr_216 lr_217 lr_218 lr_219 lr_220 hs (by omega) ?_
  refine v_callV (M' := maX11_weight) (st := []) [I_ (w (i + 1).toNat)] 221 lr_221 lvLa_46 ⟨by omega, by omega⟩ (wk1 dy) (by decide) rfl (show k + 1 ≤ 601024 by omega) (show z + 10 ≤ 7293034 by omega) ?_
  refine cs_weight hC hI (hw _) (fun v a' n1 dy1 g1 e hC1 hK => ?_)
  show V miL_law (d + 123) 460 (LW A i) [I_ v] n1 (W0 dy1) g1 (k + 1) (z + 10) P
  have hs1 := hs.kr hK
  have hI1 := hI.kr hK
  have hn1 : 100 ≤ n1 := hC1.1
  refine v_aload_n 222 2 lr_222 rfl rfl ?_
  refine l_arg 223 lr_223 lr_224 lr_225 lr_226 lr_227 hs1 (by omega) ?_
  refine v_callV (M' := miX12_weight) (st := [I_ v]) [I_ (w (i + 1).toNat)] 228 lr_228 lvL_49 ⟨by omega, by omega⟩ (wk53 dy1) (by decide) rfl (show k + 1 + 0 ≤ 601024 by omega) (show z + 10 + 0 ≤ 7293034 by omega) ?_
  refine rs_weight hn1 hI1.1 (hw _) (fun v' g2 e2 => ?_)
  obtain ⟨ev, hI2, hC2, hK2⟩ := ja (op := fun g => nwW g (w (i + 1).toNat)) (fun g g1 h => nwW_cg h _) (fun g => nwW_kc g _) (fun a h => inv_nwW h _) hI hK e hC1 e2
  subst ev
  show V miL_law (d + 123) 470 (LW A i) [I_ v', I_ v'] n1 (W0 dy1) g2 (k + 1 + 0) (z + 10 + 0) P
  refine v_ieq_same (tgt := 1519) 229 lr_229 (by decide) ?_
  exact hN _ _ _ _ _ hI2 hC2 (hs1.kc hK2) (by omega) (by omega)
set_option maxHeartbeats 4000000 in
set_option maxRecDepth 4000 in
theorem lc_load {A d n k z : Nat} {N i : Int} {w : Nat → Int} {dy : Nat → Shp} {g : Hp} {P : Pst} (hs : Sq A N w g) (hw : ∀ q, i3 (w q)) (hi : 0 ≤ i ∧ i + 6 ≤ N) (hI : Inv g) (hC : Ca n dy g g) (hk : k + 1 ≤ 601024) (hz : z + 16 ≤ 7293034) (hN : Nx (d + 123) P A N w i k z) : V miL_law (d + 123) 475 (LW A i) [] n (W0 dy) g k z P := by
  have hn : 100 ≤ n := hC.1
  refine v_aload_n 232 1 lr_232 rfl rfl ?_
  refine l_arg 233 lr_233 lr_234 lr_235 lr_236 lr_237 hs (by omega) ?_
  refine l_arg 238 lr_238 lr_239 lr_240 lr_241 lr_242 hs (by omega) ?_
  refine v_callV (M' := maX11_load) (st := []) [I_ (w (i + 1).toNat), I_ (w (i + 2).toNat)] 243 lr_243 lvLa_50 ⟨by omega, by omega⟩ (wk1 dy) (by decide) rfl (show k + 1 ≤ 601024 by omega) (show z + 10 ≤ 7293034 by omega) ?_
  refine cs_load hC hI (hw _) (hw _) (fun v a' n1 dy1 g1 e hC1 hK => ?_)
  show V miL_law (d + 123) 491 (LW A i) [I_ v] n1 (W0 dy1) g1 (k + 1) (z + 10) P
  have hs1 := hs.kr hK
  have hI1 := hI.kr hK
  have hn1 : 100 ≤ n1 := hC1.1
  refine v_rng (fun hr => ?_)
  refine v_aload_n 244 2 lr_244 rfl rfl ?_
  refine l_arg 245 lr_245 lr_246 lr_247 lr_248 lr_249 hs1 (by omega) ?_
  refine l_arg 250 lr_250 lr_251 lr_252 lr_253 lr_254 hs1 (by omega) ?_
  refine v_callV (M' := miX12_load) (st := [I_ v]) [I_ (w (i + 1).toNat), I_ (w (i + 2).toNat)] 255 lr_255 lvL_54 ⟨by omega, by omega⟩ (wk53 dy1) (by decide) rfl (show k + 1 + 0 ≤ 601024 by omega) (show z + 10 + 0 ≤ 7293034 by omega) ?_
  refine rs_load hn1 hI1.1 hI1.t16 (fun q _ => rL hr (a := 56) (q := q) (t := 14) ⟨by omega, by omega⟩ rfl rfl rfl) (hw _) (hw _) (fun v' g2 e2 => ?_)
  obtain ⟨ev, hI2, hC2, hK2⟩ := jb (op := fun g => opLoad g (w (i + 1).toNat) (w (i + 2).toNat)) (fun g g1 h => opLoad_cg h _ _) (fun g => opLoad_kc g _ _) (fun a h => inv_load h _ _) hI hK e hC1 e2
  subst ev
  show V miL_law (d + 123) 507 (LW A i) [I_ v', I_ v'] n1 (W0 dy1) g2 (k + 1 + 0) (z + 10 + 0) P
  refine v_ieq_same (tgt := 1519) 256 lr_256 (by decide) ?_
  exact hN _ _ _ _ _ hI2 hC2 (hs1.kc hK2) (by omega) (by omega)
set_option maxHeartbeats 4000000 in
set_option maxRecDepth 4000 in
theorem lc_rod {A d n k z : Nat} {N i : Int} {w : Nat → Int} {dy : Nat → Shp} {g : Hp} {P : Pst} (hs : Sq A N w g) (hw : ∀ q, i3 (w q)) (hi : 0 ≤ i ∧ i + 6 ≤ N) (hI : Inv g) (hC : Ca n dy g g) (hk : k + 1 ≤ 601024) (hz : z + 16 ≤ 7293034) (hN : Nx (d + 123) P A N w i k z) : V miL_law (d + 123) 512 (LW A i) [] n (W0 dy) g k z P := by
  have hn : 100 ≤ n := hC.1
  refine v_aload_n 259 1 lr_259 rfl rfl ?_
  refine l_arg 260 lr_260 lr_261 lr_262 lr_263 lr_264 hs (by omega) ?_
  refine l_arg 265 lr_265 lr_266 lr_267 lr_268 lr_269 hs (by omega) ?_
  refine l_arg 270 lr_270 lr_271 lr_272 lr_273 lr_274 hs (by omega) ?_
  refine l_bool 275 lr_275 lr_276 lr_277 lr_278 (hw _) ?_
  refine v_callV (M' := maX11_rod) (st := []) [I_ (w (i + 1).toNat), I_ (w (i + 2).toNat), I_ (if (w (i + 3).toNat) = 0 then 0 else 1)] 279 lr_279 lvLa_55 ⟨by omega, by omega⟩ (wk1 dy) (by decide) rfl (show k + 1 ≤ 601024 by omega) (show z + 16 ≤ 7293034 by omega) ?_
  refine cs_rod hC hI (hw _) (hw _) b01 (fun v a' n1 dy1 g1 e hC1 hK => ?_)
  show V miL_law (d + 123) 542 (LW A i) [I_ v] n1 (W0 dy1) g1 (k + 1) (z + 16) P
  have hs1 := hs.kr hK
  have hI1 := hI.kr hK
  have hn1 : 100 ≤ n1 := hC1.1
  refine v_aload_n 280 2 lr_280 rfl rfl ?_
  refine l_arg 281 lr_281 lr_282 lr_283 lr_284 lr_285 hs1 (by omega) ?_
  refine l_arg 286 lr_286 lr_287 lr_288 lr_289 lr_290 hs1 (by omega) ?_
  refine l_arg 291 lr_291 lr_292 lr_293 lr_294 lr_295 hs1 (by omega) ?_
  refine l_bool 296 lr_296 lr_297 lr_298 lr_299 (hw _) ?_
  refine v_callV (M' := miX12_rod) (st := [I_ v]) [I_ (w (i + 1).toNat), I_ (w (i + 2).toNat), I_ (if (w (i + 3).toNat) = 0 then 0 else 1)] 300 lr_300 lvL_59 ⟨by omega, by omega⟩ (wk53 dy1) (by decide) rfl (show k + 1 + 0 ≤ 601024 by omega) (show z + 16 + 0 ≤ 7293034 by omega) ?_
  refine rs_rod hn1 hI1.1 (hw _) (hw _) b01 (fun v' g2 e2 => ?_)
  obtain ⟨ev, hI2, hC2, hK2⟩ := ja (op := fun g => opRod g (w (i + 1).toNat) (w (i + 2).toNat) (if (w (i + 3).toNat) = 0 then 0 else 1)) (fun g g1 h => opRod_cg h _ _ _) (fun g => opRod_kc g _ _ _) (fun a h => inv_rod h _ _ _) hI hK e hC1 e2
  subst ev
  show V miL_law (d + 123) 572 (LW A i) [I_ v', I_ v'] n1 (W0 dy1) g2 (k + 1 + 0) (z + 16 + 0) P
  refine v_ieq_same (tgt := 1519) 301 lr_301 (by decide) ?_
  exact hN _ _ _ _ _ hI2 hC2 (hs1.kc hK2) (by omega) (by omega)
set_option maxHeartbeats 4000000 in
set_option maxRecDepth 4000 in
theorem lc_plate {A d n k z : Nat} {N i : Int} {w : Nat → Int} {dy : Nat → Shp} {g : Hp} {P : Pst} (hs : Sq A N w g) (hw : ∀ q, i3 (w q)) (hi : 0 ≤ i ∧ i + 6 ≤ N) (hI : Inv g) (hC : Ca n dy g g) (hk : k + 1 ≤ 601024) (hz : z + 16 ≤ 7293034) (hN : Nx (d + 123) P A N w i k z) : V miL_law (d + 123) 577 (LW A i) [] n (W0 dy) g k z P := by
  have hn : 100 ≤ n := hC.1
  refine v_aload_n 304 1 lr_304 rfl rfl ?_
  refine l_arg 305 lr_305 lr_306 lr_307 lr_308 lr_309 hs (by omega) ?_
  refine l_arg 310 lr_310 lr_311 lr_312 lr_313 lr_314 hs (by omega) ?_
  refine v_callV (M' := maX11_plate) (st := []) [I_ (w (i + 1).toNat), I_ (w (i + 2).toNat)] 315 lr_315 lvLa_60 ⟨by omega, by omega⟩ (wk1 dy) (by decide) rfl (show k + 1 ≤ 601024 by omega) (show z + 14 ≤ 7293034 by omega) ?_
  refine cs_plate hC hI (hw _) (hw _) (fun v a' n1 dy1 g1 e hC1 hK => ?_)
  show V miL_law (d + 123) 593 (LW A i) [I_ v] n1 (W0 dy1) g1 (k + 1) (z + 14) P
  have hs1 := hs.kr hK
  have hI1 := hI.kr hK
  have hn1 : 100 ≤ n1 := hC1.1
  refine v_aload_n 316 2 lr_316 rfl rfl ?_
  refine l_arg 317 lr_317 lr_318 lr_319 lr_320 lr_321 hs1 (by omega) ?_
  refine l_arg 322 lr_322 lr_323 lr_324 lr_325 lr_326 hs1 (by omega) ?_
  refine v_callV (M' := miX12_plate) (st := [I_ v]) [I_ (w (i + 1).toNat), I_ (w (i + 2).toNat)] 327 lr_327 lvL_63 ⟨by omega, by omega⟩ (wk53 dy1) (by decide) rfl (show k + 1 + 0 ≤ 601024 by omega) (show z + 14 + 0 ≤ 7293034 by omega) ?_
  refine rs_plate hn1 hI1 (hw _) (hw _) (fun v' g2 b' e2 hb hk2 => ?_)
  obtain ⟨ev, hI2, hC2, hK2⟩ := jc (op := fun g => opPlate g (w (i + 1).toNat) (w (i + 2).toNat)) (fun g g1 h => opPlate_cg h _ _) (fun a h => inv_plate h _ _) hI hK e hC1 e2 hb hk2
  subst ev
  show V miL_law (d + 123) 609 (LW A i) [I_ v', I_ v'] n1 (W0 dy1) g2 (k + 1 + 0) (z + 14 + 0) P
  refine v_ieq_same (tgt := 1519) 328 lr_328 (by decide) ?_
  exact hN _ _ _ _ _ hI2 hC2 (hs1.kc hK2) (by omega) (by omega)
