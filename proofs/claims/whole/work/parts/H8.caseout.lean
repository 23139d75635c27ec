/-! THE LAW: its case out -/
theorem lkOut : LkSH miL_law miL_out hhO 169 3 := ⟨⟨tbG_in (List.mem_append_right _ (List.mem_of_getElem? (i := 1041) (by decide +kernel))) rfl, tbG_in (List.mem_append_right _ (List.mem_of_getElem? (i := 0) (by decide +kernel))) rfl, tbG_in (List.mem_append_right _ (List.mem_of_getElem? (i := 1039) (by decide +kernel))) rfl⟩, ⟨by decide +kernel, by decide +kernel, by decide +kernel⟩, by decide, tbG_in (List.mem_append_right _ (List.mem_of_getElem? (i := 1040) (by decide +kernel))) rfl⟩
def LX (A : Nat) (i r : Int) : List (Nat × Value) := [(0, .retAddr A), (1, .ref 1), (2, .ref 53), (3, .ref 99), (4, I_ i), (5, I_ r)]
def LY (A : Nat) (i r y : Int) : List (Nat × Value) := [(0, .retAddr A), (1, .ref 1), (2, .ref 53), (3, .ref 99), (4, I_ i), (5, I_ r), (6, I_ y)]
section LawOut
variable {A d n k z : Nat} {N i r y : Int} {w : Nat → Int} {dy : Nat → Shp} {g : Hp} {P : Pst}
theorem l_argG {M : MI} {pc : Nat} {L : List (Nat × Value)} {st : List Value} {S : Nat → Shp} {c : Int} (j : Nat) (hd1 : M.2.2.2[j]? = some (pc, .aload_n 0, 1)) (hd2 : M.2.2.2[j + 1]? = some (pc + 1, .iload 4, 2)) (hd3 : M.2.2.2[j + 2]? = some (pc + 1 + 2, .iconst c, 1)) (hd4 : M.2.2.2[j + 3]? = some (pc + 1 + 2 + 1, .iadd, 1)) (hd5 : M.2.2.2[j + 4]? = some (pc + 1 + 2 + 1 + 1, .iaload, 1)) (hl0 : L[0]? = some (0, .retAddr A)) (hl4 : L[4]? = some (4, I_ i)) (hs : Sq A N w g) (hx : 0 ≤ i + c ∧ i + c < N)
    (h : V M d (pc + 1 + 2 + 1 + 1 + 1) L (I_ (w (i + c).toNat) :: st) n S g k z P) : V M d pc L st n S g k z P := by
  refine v_aloadS (a := A) j 0 hd1 rfl hl0 ?_
  refine v_iload (j + 1) 4 hd2 hl4 ?_
  refine v_iconst (j + 2) hd3 ?_
  refine v_iadd (j + 3) hd4 ?_
  obtain ⟨h1, h2, h3⟩ := hs
  rw [← h1]
  refine v_sld (j + 4) hd5 (by rw [h2]; exact hx) ?_
  rw [h3]
  exact h
theorem lo_a (hn : 100 ≤ n) (hs : Sq A N w g) (hi : 0 ≤ i ∧ i + 6 ≤ N) (hk : k ≤ 601024) (hz : z ≤ 7293034)
    (h : Runs miX12_out (d + 122) [.ref 53, I_ (w (i + 1).toNat)] n (W0 dy) g (fun v n' S' g' => V miL_law (d + 123) 1486 (LX A i r) (v.toList ++ []) n' S' g' (k + 0) (z + 0) P)) : V miL_law (d + 123) 1474 (LW A i) [I_ r] n (W0 dy) g k z P := by
  refine v_istore (L' := LX A i r) 946 [1, 2, 3, 4, 5, 0] lr_946 (by decide) rfl ?_
  refine v_aload_n 947 2 lr_947 rfl rfl ?_
  refine l_argG 948 lr_948 lr_949 lr_950 lr_951 lr_952 rfl rfl hs (by omega) ?_
  exact v_callV (M' := miX12_out) (st := []) [I_ (w (i + 1).toNat)] 953 lr_953 lvL_174 ⟨by omega, by omega⟩ (wk53 dy) (by decide) rfl (show k + 0 ≤ 601024 by omega) (show z + 0 ≤ 7293034 by omega) h
theorem lo_b (hn : 100 ≤ n) (hk : k ≤ 601024) (hz : z ≤ 7293034) (hr : g 53 1 = r) (h : V miL_law (d + 123) 1499 (LY A i r y) [] n (W0 dy) g (k + 0) (z + 0) P) : V miL_law (d + 123) 1486 (LX A i r) [I_ y] n (W0 dy) g k z P := by
  refine v_istore (L' := LY A i r y) 954 [1, 2, 3, 4, 5, 6, 0] lr_954 (by decide) rfl ?_
  refine v_aload_n 955 2 lr_955 rfl rfl ?_
  refine v_callV (M' := miX12_thrown) (st := []) [] 956 lr_956 lvL_175 ⟨by omega, by omega⟩ (wk53 dy) (by decide) rfl (show k + 0 ≤ 601024 by omega) (show z + 0 ≤ 7293034 by omega) ?_
  refine wX12_thrown hn ?_
  show V miL_law (d + 123) 1492 (LY A i r y) [I_ (g 53 1)] n (W0 dy) g (k + 0) (z + 0) P
  rw [hr]
  refine v_iload 957 5 lr_957 rfl ?_
  exact v_ieq_same (tgt := 1499) 958 lr_958 (by decide) h
theorem lo_e (h : V miL_law (d + 123) 1519 (LW A i) [] n (W0 dy) g k z P) : V miL_law (d + 123) 1516 (LY A i r y) [] n (W0 dy) g k z P := by
  refine v_goto (tgt := 1519) 972 lr_972 (by decide) ?_
  exact v_loc [0, 1, 2, 3, 4] rfl h
theorem rz_J (hn : 100 ≤ n) : rz (gJ g n) = rz g := by
  funext i q
  unfold rz
  cases e : rl i q with
  | false => rfl
  | true =>
    show gJ g n i q = g i q
    unfold rl at e
    simp only [Bool.or_eq_true, Bool.and_eq_true, Nat.ble_eq, Nat.beq_eq] at e
    unfold gJ
    rw [if_pos (by omega)]
set_option maxHeartbeats 4000000 in
theorem lc_out (hs : Sq A N w g) (hw : ∀ q, i3 (w q)) (hi : 0 ≤ i ∧ i + 6 ≤ N) (hI : Inv g) (hC : Ca n dy g g) (hk : k + 1 ≤ 601024) (hz : z + 16 ≤ 7293034) (hN : Nx (d + 123) P A N w i k z) : V miL_law (d + 123) 1463 (LW A i) [] n (W0 dy) g k z P := by
  have hn : 100 ≤ n := hC.1
  refine v_aload_n 938 1 lr_938 rfl rfl ?_
  refine l_arg 939 lr_939 lr_940 lr_941 lr_942 lr_943 hs (by omega) ?_
  refine v_aload_n 944 3 lr_944 rfl rfl ?_
  refine v_callSH (M' := miL_out) (hh := hhO) (st := []) [.ref 1, I_ (w (i + 1).toNat), .ref 99] 945 lr_945 lkOut rfl (by omega) (show k + 1 ≤ 601024 by omega) (show z + 6 ≤ 7293034 by omega) ?_
  generalize hx : w (i + 1).toNat = x
  have hx3 : i3 x := hx ▸ hw _
  have h37 : g 37 1 = g 53 29 := hC.2.2.2.2.2.1
  refine rl_out hn hx3 (fun c => ?_) (fun c n' hle => ?_)
  · show V miL_law (d + 123) 1474 (LW A i) [I_ 0] n (W0 dy) (up2 g 99 0 (g 38 x.toNat)) (k + 1) (z + 6) P
    have h38 : g 38 x.toNat = g 78 x.toNat := hC.2.2.2.2.2.2.1 x.toNat (by omega) (by omega)
    rw [h38]
    have hs1 : Sq A N w (up2 g 99 0 (g 78 x.toNat)) := hs.to (fun q => up2_i (by omega))
    refine lo_a hn hs1 hi (by omega) (by omega) ?_
    rw [hx]
    have e1 : up2 g 99 0 (g 78 x.toNat) 53 29 = g 53 29 := up2_i (by omega)
    have e2 : up2 g 99 0 (g 78 x.toNat) 78 x.toNat = g 78 x.toNat := up2_i (by omega)
    refine wX12_out hn ⟨hx3, fun q => ?_, fun _ => ⟨fun _ => ⟨⟨c.1, c.2.2⟩, ?_⟩, fun q => ?_⟩⟩
    · exfalso; omega
    · rw [e2]
      show V miL_law (d + 123) 1486 (LX A i 0) [I_ (g 78 x.toNat)] n (W0 dy) (up2 (up2 g 99 0 (g 78 x.toNat)) 53 1 0) (k + 1 + 0) (z + 6 + 0) P
      refine lo_b hn (by omega) (by omega) up2_s ?_
      refine v_rng (fun hr => ?_)
      have h3 : i3 (g 78 x.toNat) := rI hr (a := 78) (q := x.toNat) (t := 12) ⟨by omega, by omega⟩ rfl rfl (by rw [up2_i (by omega), up2_i (by omega)])
      refine v_iload 961 5 lr_961 rfl ?_
      refine v_if_ne (tgt := 1516) 962 lr_962 (by decide) (by decide) (fun q => absurd rfl q) (fun _ => ?_)
      refine v_aload_n 963 3 lr_963 rfl rfl ?_
      refine v_iconst 964 lr_964 ?_
      refine v_lald (N := 1) 965 lr_965 ⟨by omega, by omega⟩ rfl rfl (by decide) (by decide) ?_
      have e4 : up2 (up2 g 99 0 (g 78 x.toNat)) 53 1 0 99 (0 : Int).toNat = g 78 x.toNat := (up2_i (by omega)).trans up2_s
      rw [e4]
      refine v_iload 966 6 lr_966 rfl ?_
      refine v_i2l 967 lr_967 h3 ?_
      refine v_leq_same (tgt := 1516) 968 lr_968 lr_969 (by decide) ?_
      refine lo_e ?_
      exact hN _ _ _ _ _ (hI.cg ((rz_sk rfl).trans (rz_sk rfl))) (Ca.cg ((rz_sk rfl).trans (rz_sk rfl)) (hC.keep (fun i q hi => (up2_i (by unfold cl at hi; omega)).trans (up2_i (by unfold cl at hi; omega))))) (hs1.kc (kk1 _)) (by omega) (by omega)
    · exfalso; rw [e1] at q; omega
  · show V miL_law (d + 123) 1474 (LW A i) [I_ 1] n' (W0 (dyJ dy n)) (gJ g n) (k + 1) (z + 6) P
    have hs1 : Sq A N w (gJ g n) := hs.to (fun q => if_pos (by omega))
    have hn' : 100 ≤ n' := by omega
    have e1 : gJ g n 53 29 = g 53 29 := if_pos (by omega)
    have fin : V miL_law (d + 123) 1486 (LX A i 1) [I_ 0] n' (W0 (dyJ dy n)) (up2 (up2 (gJ g n) 53 1 0) 53 1 1) (k + 1 + 0) (z + 6 + 0) P := by
      refine lo_b hn' (by omega) (by omega) up2_s ?_
      refine v_iload 961 5 lr_961 rfl ?_
      refine v_if_ne (tgt := 1516) 962 lr_962 (by decide) (by decide) (fun _ => ?_) (fun q => absurd q (by decide))
      refine lo_e ?_
      have ez : rz (up2 (up2 (gJ g n) 53 1 0) 53 1 1) = rz g := ((rz_sk rfl).trans (rz_sk rfl)).trans (rz_J hn)
      exact hN _ _ _ _ _ (hI.cg ez) (Ca.cg ez ((CQ.junk hn hle hC).keep (fun i q hi => (up2_i (by unfold cl at hi; omega)).trans (up2_i (by unfold cl at hi; omega))))) (hs1.kc ((kk1 _).up (by omega))) (by omega) (by omega)
    refine lo_a hn' hs1 hi (by omega) (by omega) ?_
    rw [hx]
    refine wX12_out hn' ⟨hx3, fun _ => fin, fun q1 => ⟨fun q2 => ?_, fun _ => fin⟩⟩
    exfalso; rw [e1] at q2; omega
end LawOut
