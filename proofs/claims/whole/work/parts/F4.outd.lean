/-! OUT OF THE CLASS: the contract of a call that throws -/
def moX11_out : MI := ((yX11_out, RX11, cX11_out), (2, (some .int)), (1, 6), miX11_out.2.2.2)
def XCo (b : Nat) (D : va_G) (dA : Nat → ClassId) (n : Nat) (dy : Nat → Shp) (g : Hp) : String → State → State → Prop := fun E st t => E = nseE ∧ va_F (AA b) st t ∧ Pic D dA b (t.heap.size - b) (W0 (dyJ dy n)) (gJ g n) t.heap ∧ b + n ≤ t.heap.size
theorem lvO_has : LkV moX11_out miX8_has 350 1 7 := ⟨⟨⟨tbG_in (List.mem_append_right _ (by decide +kernel)) rfl, tbG_in (List.mem_append_right _ (by decide +kernel)) rfl, tbG_in (List.mem_append_right _ (by decide +kernel)) rfl⟩, ⟨by decide +kernel, by decide +kernel, by decide +kernel⟩, by decide⟩, tbG_in (List.mem_append_right _ (by decide +kernel)) rfl, RX8, TX8, 5, rfl, tbG_in (List.mem_append_right _ (by decide +kernel)) rfl⟩
theorem nse_all_ot : ∀ w ∈ Cond.classLink RX11 353 nseE :: Cond.initialized nseE :: vx_atX RX11 357 nseE 13 prog_23_method_4_code nseN, vx_ot w = true := fun w hw => by
  rcases List.mem_cons.mp hw with e | hw
  · subst e; rfl
  · rcases List.mem_cons.mp hw with e | hw
    · subst e; rfl
    · exact List.all_eq_true.mp atX_ot w hw
section OutD
variable {d n : Nat} {dy : Nat → Shp} {g : Hp} {x : Int}
set_option maxHeartbeats 2000000 in
theorem out_throws (hn : 100 ≤ n) (hx : i3 x) (hnot : x < 0 ∨ g 37 1 ≤ x ∨ 600 ≤ x) (l : Launch) (b : Nat) (D : va_G) (dA : Nat → ClassId) :
    vx_Met l yX11_out (wsM moX11_out) (rmM moX11_out (d + 8)) (PcM l b D dA [.ref 1, I_ x] n (W0 dy) g) (fun _ _ _ _ => False) (XCo b D dA n dy g) 1 6 (AA b) := by
  refine vx_ofW (cc := cX11_out) (maxL := 2) (ret := some .int) rfl rfl ?_
  intro p e s m args below meth c s₁ B hml htab hv
  obtain ⟨rfl, hP, hK, hn0, hG⟩ := hv
  rw [lg_entry_eq]
  have hl := lv_entry ([Value.ref 1, I_ x].map (cv b)) (n := 2) (by rw [lg_len_map]; exact Nat.le_of_ble_eq_true rfl)
  rw [lv_args_map] at hl
  have hts := atoms_spec (ws := wsM moX11_out) B.pre
  have hnm := (name_of_methodNamed B.named B.method).1
  have hlocks := B.notSynchronized
  have hb : b < s.heap.size := by rw [hP.1]; omega
  have C : Ctx l moX11_out (d + 8) p (headSpec (wsM moX11_out) (rmM moX11_out (d + 8))).room s m ([Value.ref 1, I_ x].map (cv b)).toArray meth c b D dA := ⟨B.exec, B.bytes, hml, findClass_of_methodNamed B.named, fun w hw => hts w (List.mem_cons_of_mem _ hw), hK, ⟨hb, hG⟩, hnm, ⟨Nat.le_refl _, Nat.le_refl _, Nat.le_refl _, Nat.le_refl _⟩, deX11_out⟩
  generalize ((lg_sl ([Value.ref 1, I_ x].map (cv b)) ++ List.replicate (2 - (lg_sl ([Value.ref 1, I_ x].map (cv b))).length) Slot.unset).toArray) = ls at hl ⊢
  refine lv_aload_n (x := b + 1) C.1 C.2.1 (C.dec (j := 0) rfl) rfl (lmap_at hl (q := 0) rfl) ?_
  refine w_gt0 (a := 1) (n := n) (S := W0 dy) (g := g) C hP 1 rfl fl11_76_10.r (al 1 rfl hn) (wk1 dy) (by decide) ?_
  have e37 : cv b (vA (fc 10 12) (gv (W0 dy) g 1 12)) = cv b (.ref 37) := by
    unfold gv
    rw [wc1_12 dy]; rfl
  rw [e37]
  refine lv_iload_n C.1 C.2.1 (C.dec (j := 2) rfl) rfl (lmap_at hl (q := 1) rfl) ?_
  have hr : Runs miX8_has (d + 7) [.ref 37, I_ x] n (W0 dy) g (fun v n' S' g' => v = some (I_ 0) ∧ n' = n ∧ S' = W0 dy ∧ g' = g) := wX8_has hn ⟨hx, fun _ => ⟨rfl, rfl, rfl, rfl⟩, fun q0 => ⟨fun _ => ⟨rfl, rfl, rfl, rfl⟩, fun q1 => ⟨fun _ => ⟨rfl, rfl, rfl, rfl⟩, fun q2 => by omega⟩⟩⟩
  refine w_callV (M' := miX8_has) (st := []) C hP va_S.rf hl.1 [I_ x] 3 rfl lvO_has (al 37 rfl hn) (wk37 dy) (by decide) rfl (by decide) (by decide) hr ?_
  rintro v n' S' g' H1 locs1 ⟨rfl, rfl, rfl, rfl⟩ hP1 hS1
  refine lv_if_ne C.1 C.2.1 (C.dec (j := 4) rfl) (tgt := 22) rfl (fun q => absurd rfl q) fun _ => ?_
  obtain ⟨sa, hstr⟩ := hG.str (findClass_of_methodNamed B.named)
  obtain ⟨hU, hN⟩ := hG.st hb
  refine vx_throwSX (names := nseN) (cls := nseE) (own := RX11) (text := "no such byte") (A := AA b) (sa := sa) C.1 C.2.1 hG.1 nse0 nse1 nse2 nse5 (findClass_of_methodNamed B.named) nsef.1 nsef.2 (C.2.2.2.2.1 _ nse_link) (C.2.2.2.2.1 _ nse_ini) hstr (atX_at C.2.2.2.2.1 hG) nse_all_ot hU hN hS1 (by rw [hl.1, hml]) (C.dec (j := 5) rfl) (C.dec (j := 6) rfl) (C.dec (j := 7) rfl) (C.dec (j := 8) rfl) (C.dec (j := 9) rfl) (fun y hy => (htab y hy).elim) ?_ ?_ ?_ ?_ hlocks (fun t hA h1 h2 => ?_) hS1.2.2 ?_ ?_
  · show 2 + 3 < d + 8; omega
  · show 0 + (13 * (2 + 1) + 43) ≤ 64 * (d + 8); omega
  · show 0 + 0 + 1 ≤ 1; decide
  · show 0 + 0 + 6 ≤ 6; decide
  · refine ⟨rfl, ⟨Nat.le_trans hS1.1 h1, fun q q1 q2 => ?_⟩, Pic.junk hn hP1 h1 h2, by rw [← hP1.1]; exact h1⟩
    rw [h2 q (Nat.lt_of_lt_of_le q1 hS1.1)]
    exact hS1.2.1 q q1 q2
  · show 0 + 0 + 1 ≤ 1; decide
  · show 0 + 0 + 6 ≤ 6; decide
end OutD
