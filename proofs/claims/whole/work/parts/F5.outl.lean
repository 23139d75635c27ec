/-! OUT: the law's own method, which catches -/
theorem met_ofWH {l : Launch} {y : MethodName} {ws ws' : List Cond} {rm : Room} {Pc : Array Value → State → Prop} {Qc : Array Value → State → Outcome → State → Prop} {mc ms : Nat} {free : Addr → Prop} {cc : ByteArray} {maxL : Nat} {ret : Option FieldType} {hh : List (Nat × Nat × Nat × Nat)}
    (hy : plainName y.cls = true) (hw : ws = Cond.codeWith y cc maxL ret hh :: ws')
    (body : ∀ p e s m args below meth c s₁, BodyLoose p l y (headSpec ws rm) cc maxL ret e s m args below meth c s₁ → c.maxLocals = maxL → c.exceptionTable.toList = tableOf hh → Pc args s →
      W p l e (headSpec ws rm).room s m args below meth c s.heap [] 0 0 (MQ below Qc args s mc ms free) (entryFrame m args maxL)) : Met l y ws rm Pc Qc mc ms free := by
  refine MetFree.of_bodyS (code := cc) (maxLocals := maxL) (ret := ret) hy ?_ ?_
  · intro args s m h hn
    obtain ⟨m9, meth, c, hn9, h1, h2, h3, h4, -, h5, h6, -⟩ := Cond.codeWith_spec (atoms_spec (ws := ws) h _ (by rw [hw]; exact List.mem_cons_self))
    cases hn.symm.trans hn9
    exact ⟨meth, c, h1, h2, h3, h4, h5, h6⟩
  · intro p e s m args below meth c s₁ B hml hP _
    have hh0 : s₁.heap = s.heap := by rw [B.state]; rfl
    have ht := vx_table (x := y) B (atoms_spec (ws := ws) B.pre _ (by rw [hw]; exact List.mem_cons_self))
    obtain ⟨t, a1, o, b1, b2, b3⟩ := body p e s m args below meth c s₁ B hml ht hP s₁ hh0 (Stand.of_body B)
    exact ⟨t, o, a1, b1, b2, ⟨b3.1, b3.2⟩⟩
def wsH (M : MI) (hh : List (Nat × Nat × Nat × Nat)) : List Cond := .codeWith M.1.1 M.1.2.2 M.2.1.1 M.2.1.2 hh :: tbG
def RunsH (M : MI) (hh : List (Nat × Nat × Nat × Nat)) (d : Nat) (as : List Value) (n : Nat) (S : Nat → Shp) (g : Hp) (P : Pst) : Prop :=
  ∀ (l : Launch) (b : Nat) (D : va_G) (dA : Nat → ClassId), Met l M.1.1 (wsH M hh) (rmM M d) (PcM l b D dA as n S g) (QcM M.2.1.2 P b D dA) M.2.2.1.1 M.2.2.1.2 (AA b)
set_option maxHeartbeats 1000000 in
theorem RunsH.of {M : MI} {hh : List (Nat × Nat × Nat × Nat)} {d : Nat} {as : List Value} {n : Nat} {S : Nat → Shp} {g : Hp} {P : Pst} (hpl : plainName M.1.1.cls = true) (hcls : M.1.2.1 = M.1.1.cls) (hdec : ∀ q ∈ M.2.2.2, decode M.1.2.2 q.1 = .ok q.2) (hlen : (lg_sl as).length ≤ M.2.1.1) (hi : M.2.1.2 = some .int) (hV : V M d 0 (lv_args 0 as) [] n S g 0 0 P) : RunsH M hh d as n S g P := by
  intro l b D dA
  refine met_ofWH (cc := M.1.2.2) (maxL := M.2.1.1) (ret := M.2.1.2) hpl rfl ?_
  intro p e s m args below meth c s₁ B hml _ hv
  obtain ⟨rfl, hP, hK, hn, hG⟩ := hv
  rw [lg_entry_eq]
  have hl := lv_entry (as.map (cv b)) (n := M.2.1.1) (by rw [lg_len_map]; exact hlen)
  rw [lv_args_map] at hl
  have hts := atoms_spec (ws := wsH M hh) B.pre
  have hnm := (name_of_methodNamed B.named B.method).1
  have hr := B.returns
  have hlocks := B.notSynchronized
  refine hV p l e _ s m _ below meth c b D dA _ ⟨B.exec, B.bytes, hml, by rw [hcls]; exact findClass_of_methodNamed B.named, fun w hw => hts w (List.mem_cons_of_mem _ hw), hK, ⟨by rw [hP.1]; omega, hG⟩, hnm, ⟨Nat.le_refl _, Nat.le_refl _, Nat.le_refl _, Nat.le_refl _⟩, hdec⟩ ?_ s.heap [] _ hl hP va_S.rf
  intro v n' S' g' hPv hrk H locs ls pc k z hk hz hPic hS hdg
  refine W.widen (k := M.2.2.1.1) (n := M.2.2.1.2) hk hz ?_
  have hQ : ∀ t : State, t.heap = H → s.WarmedH t.vm → QcM M.2.1.2 P b D dA (as.map (cv b)).toArray s (.returned (v.map (cv b))) t := fun t ht hW => ⟨⟨v, n', S', g', rfl, hPv, hrk, by rw [ht]; exact hPic⟩, hS.F ht⟩
  have hrk' := hrk
  rw [hi] at hrk'
  cases v with
  | none => exact hrk'.elim
  | some w =>
    cases w with
    | int x =>
      obtain ⟨ty, e1, e2⟩ := rok_int hrk
      exact W.zret B.exec B.bytes (hr.trans e1) e2 hQ hS.2.2 hdg
    | _ => exact hrk'.elim
def miL_out : MI := ((yL_out, RL, cL_out), (4, (some .int)), (1, 6), [(0, .aload_n 2, 1), (1, .iconst 0, 1), (2, .aload_n 0, 1), (3, .iload_n 1, 1), (4, .invokevirtual 7, 3), (7, .i2l, 1), (8, .lastore, 1), (9, .goto 6, 3), (12, .astore_n 3, 1), (13, .iconst 1, 1), (14, .ireturn, 1), (15, .iconst 0, 1), (16, .ireturn, 1)])
theorem deL_out : ∀ q ∈ miL_out.2.2.2, decode miL_out.1.2.2 q.1 = .ok q.2 := by decide +kernel
abbrev hhO : List (Nat × Nat × Nat × Nat) := [(0, 9, 12, 13)]
theorem lvX_has : LkV miX11_out miX8_has 350 1 7 := lvO_has
theorem lvX_at : LkV miX11_out miX8_at 360 1 7 := ⟨⟨⟨tbG_in (List.mem_append_right _ (by decide +kernel)) rfl, tbG_in (List.mem_append_right _ (by decide +kernel)) rfl, tbG_in (List.mem_append_right _ (by decide +kernel)) rfl⟩, ⟨by decide +kernel, by decide +kernel, by decide +kernel⟩, by decide⟩, tbG_in (List.mem_append_right _ (by decide +kernel)) rfl, RX8, TX8, 5, rfl, tbG_in (List.mem_append_right _ (by decide +kernel)) rfl⟩
theorem lvL_out : LkV miL_out miX11_out 7 1 10 := ⟨⟨⟨tbG_in (List.mem_append_right _ (by decide +kernel)) rfl, tbG_in (List.mem_append_right _ (by decide +kernel)) rfl, tbG_in (List.mem_append_right _ (by decide +kernel)) rfl⟩, ⟨by decide +kernel, by decide +kernel, by decide +kernel⟩, by decide⟩, tbG_in (List.mem_append_right _ (by decide +kernel)) rfl, RX11, TX11, 13, rfl, tbG_in (List.mem_append_right _ (by decide +kernel)) rfl⟩
theorem lvL_outo : LkV miL_out moX11_out 7 1 10 := lvL_out
theorem nse_llink : Cond.classLink RL 13 nseE ∈ tbG := tbG_in (List.mem_append_right _ (by decide +kernel)) rfl
section OutL
variable {d n : Nat} {dy : Nat → Shp} {g : Hp} {x : Int} {P : Pst}
theorem cs_out_has (hn : 100 ≤ n) (hx : i3 x) (h : 0 ≤ x ∧ x < g 37 1 ∧ x < 600) (hp : P (some (I_ (g 38 x.toNat))) n (W0 dy) g) : Runs miX11_out (d + 2) [.ref 1, I_ x] n (W0 dy) g P := by
  refine Runs.of rfl rfl deX11_out (Nat.le_of_ble_eq_true rfl) ?_
  show V miX11_out (d + 2) 0 [(0, .ref 1), (1, I_ x)] [] n (W0 dy) g 0 0 P
  have has : ∀ (d : Nat) (P : Pst), P (some (I_ 1)) n (W0 dy) g → Runs miX8_has d [.ref 37, I_ x] n (W0 dy) g P := fun d P hp => wX8_has hn ⟨hx, fun q => by omega, fun _ => ⟨fun q => by omega, fun _ => ⟨fun q => by omega, fun _ => hp⟩⟩⟩
  refine v_aload_n 0 0 rfl rfl rfl ?_
  refine v_gK 1 rfl fl11_76_10.r (al 1 rfl hn) (wk1 dy) (by decide) rfl (r := 37) (wc1_12 dy) ?_
  refine v_iload_n 2 1 rfl rfl rfl ?_
  refine v_callV (M' := miX8_has) (st := []) [I_ x] 3 rfl lvX_has (al 37 rfl hn) (wk37 dy) (by decide) rfl (Nat.le_refl _) (Nat.le_refl _) (has _ _ ?_)
  refine v_if_ne 4 rfl (tgt := 22) rfl (by decide) (fun _ => ?_) (fun q => absurd q (by decide))
  refine v_aload_n 10 0 rfl rfl rfl ?_
  refine v_gK 11 rfl fl11_76_10.r (al 1 rfl hn) (wk1 dy) (by decide) rfl (r := 37) (wc1_12 dy) ?_
  refine v_iload_n 12 1 rfl rfl rfl ?_
  refine v_callV (M' := miX8_at) (st := []) [I_ x] 13 rfl lvX_at (al 37 rfl hn) (wk37 dy) (by decide) rfl (Nat.le_refl _) (Nat.le_refl _) ?_
  refine wX8_at hn (has _ _ (bX8_at_5 hn ⟨by decide, fun q => absurd q (by decide), fun _ => ⟨⟨by omega, by omega⟩, ?_⟩⟩))
  exact v_ret (v := some (I_ (g 38 x.toNat))) 14 rfl (Nat.zero_le _) (Nat.zero_le _) trivial rfl hp
set_option maxHeartbeats 2000000 in
theorem rl_out (hn : 100 ≤ n) (hx : i3 x) (h0 : (0 ≤ x ∧ x < g 37 1 ∧ x < 600) → P (some (I_ 0)) n (W0 dy) (up2 g 99 0 (g 38 x.toNat))) (h1 : ¬ (0 ≤ x ∧ x < g 37 1 ∧ x < 600) → ∀ n', n ≤ n' → P (some (I_ 1)) n' (W0 (dyJ dy n)) (gJ g n)) : RunsH miL_out hhO (d + 9) [.ref 1, I_ x, .ref 99] n (W0 dy) g P := by
  by_cases hc : 0 ≤ x ∧ x < g 37 1 ∧ x < 600
  · refine RunsH.of rfl rfl deL_out (Nat.le_of_ble_eq_true rfl) rfl ?_
    show V miL_out (d + 9) 0 [(0, .ref 1), (1, I_ x), (2, .ref 99)] [] n (W0 dy) g 0 0 P
    refine v_aload_n 0 2 rfl rfl rfl ?_
    refine v_iconst 1 rfl ?_
    refine v_aload_n 2 0 rfl rfl rfl ?_
    refine v_iload_n 3 1 rfl rfl rfl ?_
    refine v_callV (M' := miX11_out) (st := [I_ 0, .ref 99]) [I_ x] 4 rfl lvL_out (al 1 rfl hn) (wk1 dy) (by decide) rfl (by decide) (by decide) (cs_out_has (d := d + 6) hn hx hc ?_)
    refine v_rng fun wr => ?_
    have r8 : i3 (g 38 x.toNat) := rI wr (q := x.toNat) (al 38 rfl hn) (wk38 dy) rfl rfl
    refine v_i2l 5 rfl r8 ?_
    refine v_last (N := 1) 6 rfl (al 99 rfl hn) (wk99 dy) (wn99 dy) (by decide) (by decide) ⟨by have := r8.1; omega, by have := r8.2; omega⟩ ?_
    refine v_goto 7 rfl (tgt := 15) rfl ?_
    refine v_iconst 11 rfl ?_
    exact v_ret (v := some (I_ 0)) 12 rfl (Nat.zero_le _) (Nat.zero_le _) trivial rfl (h0 hc)
  · intro l b D dA
    refine met_ofWH (cc := cL_out) (maxL := 4) (ret := some .int) (hh := hhO) rfl rfl ?_
    intro p e s m args below meth c s₁ B hml htab hv
    obtain ⟨rfl, hP, hK, hn0, hG⟩ := hv
    rw [lg_entry_eq]
    have hl := lv_entry ([Value.ref 1, I_ x, .ref 99].map (cv b)) (n := 4) (by rw [lg_len_map]; exact Nat.le_of_ble_eq_true rfl)
    rw [lv_args_map] at hl
    have hts := atoms_spec (ws := wsH miL_out hhO) B.pre
    have hnm := (name_of_methodNamed B.named B.method).1
    have hlocks := B.notSynchronized
    have hr := B.returns
    have hb : b < s.heap.size := by rw [hP.1]; omega
    have C : Ctx l miL_out (d + 9) p (headSpec (wsH miL_out hhO) (rmM miL_out (d + 9))).room s m ([Value.ref 1, I_ x, .ref 99].map (cv b)).toArray meth c b D dA := ⟨B.exec, B.bytes, hml, findClass_of_methodNamed B.named, fun w hw => hts w (List.mem_cons_of_mem _ hw), hK, ⟨hb, hG⟩, hnm, ⟨Nat.le_refl _, Nat.le_refl _, Nat.le_refl _, Nat.le_refl _⟩, deL_out⟩
    generalize ((lg_sl ([Value.ref 1, I_ x, .ref 99].map (cv b)) ++ List.replicate (4 - (lg_sl ([Value.ref 1, I_ x, .ref 99].map (cv b))).length) Slot.unset).toArray) = ls at hl ⊢
    refine lv_aload_n (x := b + 99) C.1 C.2.1 (C.dec (j := 0) rfl) rfl (lmap_at hl (q := 2) rfl) ?_
    refine lv_iconst C.1 C.2.1 (C.dec (j := 1) rfl) rfl ?_
    refine lv_aload_n (x := b + 1) C.1 C.2.1 (C.dec (j := 2) rfl) rfl (lmap_at hl (q := 0) rfl) ?_
    refine lv_iload_n C.1 C.2.1 (C.dec (j := 3) rfl) rfl (lmap_at hl (q := 1) rfl) ?_
    obtain ⟨Cn, T0, N0, g1, g2⟩ := lvL_outo.2.2
    obtain ⟨cell, q1, q2, q3, q4⟩ := hP.obj (al 1 rfl hn) (wk1 dy) (by decide)
    have hfc := (C.2.2.2.2.2.1.1.1 10 _ g1).2.1
    have hrun := vx_runV (g := F0 m 4 ls ([I_ x].reverse ++ .ref (b + 1) :: [I_ 0, .ref (b + 99)])) (rest := [I_ 0, .ref (b + 99)]) (p := p) (l := l) (e := e) (below := below) (meth := meth) (H := s.heap) (locs := []) (cells := 0) (slots := 0) (As := [I_ x]) (b := b + 1) (C := Cn) ⟨C.1, C.2.1, C.2.2.1, C.2.2.2.1, C.2.2.2.2.1⟩ (out_throws (d := d) (dy := dy) (n := n) (g := g) (x := x) hn hx (by omega) l b D dA) ⟨lvL_outo.1.cw C, C.2.2.2.2.1 _ lvL_outo.2.1, C.2.2.2.2.1 _ g2⟩ ⟨PcM_blind b D dA _ n _ g, ⟨cell, q1, by rw [q3]; rfl, by rw [q2]; exact hfc⟩, fun U hU hW => PcM_at hP C.2.2.2.2.2.1 (by omega) hU hW C.2.2.2.2.2.2.1 va_S.rf⟩ rfl rfl hl.1 rfl (by show 2 * 0 + (1 + (1 + 0)) ≤ 8; omega) (C.dec (j := 4) rfl) ⟨by show 0 + 1 ≤ 1; decide, by show 0 + 6 ≤ 6; decide⟩
    intro T hT X
    rcases hrun T hT X with ⟨v, st₀, t, T', L, hh1, X', hL, e1, e2, hf, st⟩ | ⟨q, st₀, t, T', L, E, ce, hh1, X', hL, e1, e2, hXC, hce, hcv, hcl, st⟩
    · exact hf.elim
    · obtain ⟨rfl, hF, hPt, hsz⟩ := hXC
      have hS1 : va_S (AA b) s.heap T'.heap ([] ++ L) := ⟨by have := hF.1; rw [hh1] at this; rw [e1]; exact this, fun y h1 h2 => by have := hF.2 y (by rw [hh1]; exact h1) h2; rw [hh1] at this; rw [e1]; exact this, fun y hy => hL y (by simpa using hy)⟩
      have hcast : (Cond.castable nseE nseE).before ([Value.ref 1, I_ x, .ref 99].map (cv b)).toArray s = true := by
        obtain ⟨_, s0, a0, h0', _, _, hW0, _⟩ := hG
        exact va_Nw.use rfl ((va_Nw.of rfl (h0' _ nse_cst)).warmC hW0)
      obtain ⟨t2, a1, b1⟩ := vx_catch (name := nseE) (own := RL) (pc := 4) (ls := ls) (rest := [I_ 0, .ref (b + 99)]) (H := T'.heap) (locs := [] ++ L) (cells := 0 + 1) (slots := 0 + 6) (Q := MQ below (QcM (some .int) P b D dA) ([Value.ref 1, I_ x, .ref 99].map (cv b)).toArray s 1 6 (AA b)) (findClass_of_methodNamed B.named) [] _ [] htab (fun z hz => nomatch hz) rfl (by decide) (C.2.2.2.2.1 _ nse_llink) hcast (by rw [e1]; exact hce) hcv hcl (by
          refine lv_astore_n C.1 C.2.1 (C.dec (j := 8) rfl) rfl hl (by decide) rfl fun ls' hl' => ?_
          refine lv_iconst C.1 C.2.1 (C.dec (j := 9) rfl) rfl ?_
          exact W.zret B.exec B.bytes hr rfl (fun t' ht' hW' => ⟨⟨some (I_ 1), t.heap.size - b, W0 (dyJ dy n), gJ g n, rfl, h1 hc _ (by omega), trivial, by rw [ht', e1]; exact hPt⟩, hS1.F ht'⟩) hS1.2.2 (C.dec (j := 10) rfl)) T' rfl X'
      exact ⟨t2, st.trans a1, b1⟩
end OutL
