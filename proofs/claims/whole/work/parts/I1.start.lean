/-! THE CLAIM OUT OF ONE WALK OF THE LAW'S BODY. Your part is whole_start (and what it stands on); all else here is the same for every law, but numbers. -/
def R_law : String := "MobileMakerLaw"
def lw_P (b : Addr) (xs : List Int32) (args : Array Value) (s : State) : Prop := args = #[.ref b] ∧ s.IntsAt b xs ∧ xs.length ≤ 3072 ∧ (Jvm.Cond.and given_1 narrow_1).before args s = true
def lw_Q (_ : Array Value) (s : State) (o : Outcome) (t : State) : Prop := o = .returned (some (.int 1)) ∧ Framed s o t [] 601024 7293034
def lw_Z (below : List Frame) (a : Array Value) (s : State) : State → Prop := fun t => ∃ o, t.status = .running ∧ Ended t below o ∧ lw_Q a s o t
/-- the law's own end, with 1 on the stack, nothing written that was there before, its room as the claim has it -/
theorem lw_ret {p : Program} {l : Launch} {e : Env} {s : State} {m : MethodId} {below : List Frame} {meth : Method} {c : Code} {b : Nat} (hx : p.tables.exec = Jvm.exec) (hb : c.code = code) (hr : meth.sig.returnType = ret) (hlocks : meth.locks = false) {pc : Nat} {H : Heap} {ls : Array Slot} (hdg : decode code pc = .ok (.ireturn, 1)) : W p l e room_1 s m #[Value.ref b] below meth c H [] 601024 7293034 (lw_Z below #[Value.ref b] s) (F0 m pc ls [.int 1]) := by
  intro T hT X
  obtain ⟨fs, hret, hrun, hended, hW, hframe⟩ := X.leave (v := some (.int 1)) (hlocks := hlocks) (fun h => by rw [hr] at h; cases h)
  have hmeth' : T.vm.method? m = some meth := X.method'
  refine ⟨T.setFrames fs, ?_, .returned (some (.int 1)), hrun, hended, rfl, ⟨_, rfl⟩, hW, hframe⟩
  jvm_step X.here [X.here.top, hx, hb, hdg, hmeth', hr, ret, narrow_b1]
  (try refine ⟨rfl, ?_⟩); (try refine ⟨rfl, ?_⟩)
  first | (intro acts; rw [hret _ acts rfl rfl rfl]) | rw [hret _ _ rfl rfl rfl]
  exact Steps.refl _
/-- what holds at the law's entry: the machine, the code, the tables' words (any of lw_tbl by 'hts w (by decide +kernel)'), the script of L ints xs at the cell b, what the Statement gives of the start (any of its parts by flat_of_before) -/
def lw_At (p : Program) (s : State) (m : MethodId) (meth : Method) (c : Code) (b L : Nat) (xs : Nat → Int32) : Prop :=
  p.tables.exec = Jvm.exec ∧ c.code = code ∧ meth.sig.returnType = ret ∧ c.maxLocals = 7 ∧ s.vm.findClass R_law = some m.cls ∧ (∀ w ∈ lw_tbl, w.before #[Value.ref b] s = true) ∧ va_X b L xs s s.heap ∧ b < s.heap.size ∧ meth.locks = false ∧ (Jvm.Cond.and given_1 narrow_1).before #[Value.ref b] s = true
theorem cl_in : ∀ q ∈ castl, Cond.castable q.1 q.2 ∈ lw_tbl := by decide +kernel
theorem nl_in : ∀ q ∈ nestl, Cond.methodLinkNest q.1 q.2.1 q.2.2 "MobileMaker" ∈ lw_tbl := by decide +kernel
theorem KX_start {s : State} {args : Array Value} (hts : ∀ w ∈ lw_tbl, w.before args s = true) : KX s := by
  refine ⟨fun q hq => va_Nw.of rfl (hts _ (cl_in q hq)), fun q hq => va_Nw.of rfl (hts _ (nl_in q hq)), ?_, ?_, ?_, ?_⟩
  · exact va_AO.of (A := args) (hts (.arrayOver (.object "MobileMaker$Part")) (List.mem_append_right _ (List.mem_of_getElem? (i := 33) (by decide +kernel))))
  · exact va_AO.of (A := args) (hts (.arrayOver (.object "MobileMaker$Rod")) (List.mem_append_right _ (List.mem_of_getElem? (i := 179) (by decide +kernel))))
  · exact va_AO.of (A := args) (hts (.arrayOver (.object "MobileMaker$Tray")) (List.mem_append_right _ (List.mem_of_getElem? (i := 31) (by decide +kernel))))
  · have h9 := hts (.arrayOver (.array .int)) (List.mem_append_right _ (List.mem_of_getElem? (i := 137) (by decide +kernel)))
    unfold va_AI
    simp only [Cond.before, Cond.holds, Cond.value] at h9 ⊢
    exact h9
set_option maxHeartbeats 4000000 in
theorem KK_start {s : State} {args : Array Value} (hts : ∀ w ∈ lw_tbl, w.before args s = true) (hgv : (Jvm.Cond.and given_1 narrow_1).before args s = true) {cS : ClassId} (hS : SAk cS s) : ∃ (D : va_G) (dA : Nat → ClassId), dA 20 = cS ∧ KK D dA s := by
  have htb : ∀ w ∈ tbG, w.before args s = true := fun w hw => hts w (List.mem_filter.mp hw).1
  obtain ⟨c0, i0, k0⟩ := u_known (C := RX0) (T := TX0) (N := 11) (n := 11) htb kf0 (hts (.instantiable RX0 11) (List.mem_append_right _ (List.mem_of_getElem? (i := 89) (by decide +kernel))))
  obtain ⟨c1, i1, k1⟩ := u_known (C := RX1) (T := TX1) (N := 3) (n := 3) htb kf1 (hts (.instantiable RX1 3) (List.mem_append_right _ (List.mem_of_getElem? (i := 35) (by decide +kernel))))
  obtain ⟨c2, i2, k2⟩ := u_known (C := RX3) (T := TX3) (N := 11) (n := 11) htb kf2 (hts (.instantiable RX3 11) (List.mem_append_right _ (List.mem_of_getElem? (i := 131) (by decide +kernel))))
  obtain ⟨c3, i3, k3⟩ := u_known (C := RX4) (T := TX4) (N := 14) (n := 14) htb kf3 (hts (.instantiable RX4 14) (List.mem_append_right _ (List.mem_of_getElem? (i := 539) (by decide +kernel))))
  obtain ⟨c4, i4, k4⟩ := u_known (C := RX5) (T := TX5) (N := 3) (n := 3) htb kf4 (hts (.instantiable RX5 3) (List.mem_append_right _ (List.mem_of_getElem? (i := 54) (by decide +kernel))))
  obtain ⟨c5, i5, k5⟩ := u_known (C := RX6) (T := TX6) (N := 16) (n := 16) htb kf5 (hts (.instantiable RX6 16) (List.mem_append_right _ (List.mem_of_getElem? (i := 441) (by decide +kernel))))
  obtain ⟨c6, i6, k6⟩ := u_known (C := RX7) (T := TX7) (N := 3) (n := 3) htb kf6 (hts (.instantiable RX7 3) (List.mem_append_right _ (List.mem_of_getElem? (i := 71) (by decide +kernel))))
  obtain ⟨c7, i7, k7⟩ := u_known (C := RX8) (T := TX8) (N := 5) (n := 5) htb kf7 (hts (.instantiable RX8 5) (List.mem_append_right _ (List.mem_of_getElem? (i := 173) (by decide +kernel))))
  obtain ⟨c8, i8, k8⟩ := u_known (C := RX9) (T := TX9) (N := 3) (n := 3) htb kf8 (hts (.instantiable RX9 3) (List.mem_append_right _ (List.mem_of_getElem? (i := 197) (by decide +kernel))))
  obtain ⟨c9, i9, k9⟩ := u_known (C := RX10) (T := TX10) (N := 10) (n := 10) htb kf9 (hts (.instantiable RX10 10) (List.mem_append_right _ (List.mem_of_getElem? (i := 338) (by decide +kernel))))
  obtain ⟨c10, i10, k10⟩ := u_known (C := RX11) (T := TX11) (N := 13) (n := 13) htb kf10 (hts (.instantiable RX11 13) (List.mem_append_right _ (List.mem_of_getElem? (i := 23) (by decide +kernel))))
  obtain ⟨c11, i11, k11⟩ := u_known (C := RX12) (T := TX12) (N := 58) (n := 58) htb kf11 (hts (.instantiable RX12 58) (List.mem_append_right _ (List.mem_of_getElem? (i := 1122) (by decide +kernel))))
  obtain ⟨a12, k12', m12, f12, g12, h12⟩ := Cond.arrayClass_spec (htb _ ac12)
  obtain ⟨a13, k13', m13, f13, g13, h13⟩ := Cond.arrayClass_spec (htb _ ac13)
  obtain ⟨a14, k14', m14, f14, g14, h14⟩ := Cond.arrayClass_spec (htb _ ac14)
  obtain ⟨a15, k15', m15, f15, g15, h15⟩ := Cond.arrayClass_spec (htb _ ac15)
  obtain ⟨m16, a16, k16', e16, -, g16, h16, f16⟩ := Cond.arrayOver_spec (hts (.arrayOver (.object "MobileMaker$Part")) (List.mem_append_right _ (List.mem_of_getElem? (i := 33) (by decide +kernel))))
  obtain ⟨m17, a17, k17', e17, -, g17, h17, f17⟩ := Cond.arrayOver_spec (hts (.arrayOver (.object "MobileMaker$Rod")) (List.mem_append_right _ (List.mem_of_getElem? (i := 179) (by decide +kernel))))
  obtain ⟨m18, a18, k18', e18, -, g18, h18, f18⟩ := Cond.arrayOver_spec (hts (.arrayOver (.object "MobileMaker$Tray")) (List.mem_append_right _ (List.mem_of_getElem? (i := 31) (by decide +kernel))))
  obtain ⟨m19, a19, k19', e19, g19, h19, f19⟩ := Cond.arrayOver_specA (hts (.arrayOver (.array .int)) (List.mem_append_right _ (List.mem_of_getElem? (i := 137) (by decide +kernel))))
  have hn := flat_of_before _ hgv
  refine ⟨(fun k => [c0, c1, c2, c3, c4, c5, c6, c7, c8, c9, c10, c11].getD k c0, fun k => [i0, i1, i2, i3, i4, i5, i6, i7, i8, i9, i10, i11].getD k i0), fun t => [a12, a13, a14, a15, a16, a17, a18, a19].getD (t - 12) cS, rfl, ⟨fun k q hq => ?_, fun k q hq => ?_⟩, ⟨?_, ?_⟩, ⟨?_, hS⟩, ?_, KX_start hts⟩
  · match k, hq with
    | 0, hq => obtain rfl := Option.some.inj (show some (RX0, TX0, 11) = some q from hq); exact k0
    | 1, hq => obtain rfl := Option.some.inj (show some (RX1, TX1, 3) = some q from hq); exact k1
    | 2, hq => obtain rfl := Option.some.inj (show some (RX3, TX3, 11) = some q from hq); exact k2
    | 3, hq => obtain rfl := Option.some.inj (show some (RX4, TX4, 14) = some q from hq); exact k3
    | 4, hq => obtain rfl := Option.some.inj (show some (RX5, TX5, 3) = some q from hq); exact k4
    | 5, hq => obtain rfl := Option.some.inj (show some (RX6, TX6, 16) = some q from hq); exact k5
    | 6, hq => obtain rfl := Option.some.inj (show some (RX7, TX7, 3) = some q from hq); exact k6
    | 7, hq => obtain rfl := Option.some.inj (show some (RX8, TX8, 5) = some q from hq); exact k7
    | 8, hq => obtain rfl := Option.some.inj (show some (RX9, TX9, 3) = some q from hq); exact k8
    | 9, hq => obtain rfl := Option.some.inj (show some (RX10, TX10, 10) = some q from hq); exact k9
    | 10, hq => obtain rfl := Option.some.inj (show some (RX11, TX11, 13) = some q from hq); exact k10
    | 11, hq => obtain rfl := Option.some.inj (show some (RX12, TX12, 58) = some q from hq); exact k11
    | k + 12, hq => exact absurd (List.getElem?_eq_some_iff.mp hq).1 (by show ¬ (k + 12 < 12); omega)
  · match k, hq with
    | 0, hq => obtain rfl := Option.some.inj (show some (a12, FieldType.byte) = some q from hq); exact ⟨fun N z => ⟨(fun k h => by cases h), k12', g12, m12, h12⟩, f12⟩
    | 1, hq => obtain rfl := Option.some.inj (show some (a13, FieldType.int) = some q from hq); exact ⟨fun N z => ⟨(fun k h => by cases h), k13', g13, m13, h13⟩, f13⟩
    | 2, hq => obtain rfl := Option.some.inj (show some (a14, FieldType.long) = some q from hq); exact ⟨fun N z => ⟨(fun k h => by cases h), k14', g14, m14, h14⟩, f14⟩
    | 3, hq => obtain rfl := Option.some.inj (show some (a15, FieldType.boolean) = some q from hq); exact ⟨fun N z => ⟨(fun k h => by cases h), k15', g15, m15, h15⟩, f15⟩
    | 4, hq => obtain rfl := Option.some.inj (show some (a16, FieldType.object "MobileMaker$Part") = some q from hq); exact ⟨fun N z => ⟨(fun k h => by cases h), k16', g16, m16, h16⟩, k16', m16, g16, h16, e16, f16⟩
    | 5, hq => obtain rfl := Option.some.inj (show some (a17, FieldType.object "MobileMaker$Rod") = some q from hq); exact ⟨fun N z => ⟨(fun k h => by cases h), k17', g17, m17, h17⟩, k17', m17, g17, h17, e17, f17⟩
    | 6, hq => obtain rfl := Option.some.inj (show some (a18, FieldType.object "MobileMaker$Tray") = some q from hq); exact ⟨fun N z => ⟨(fun k h => by cases h), k18', g18, m18, h18⟩, k18', m18, g18, h18, e18, f18⟩
    | 7, hq => obtain rfl := Option.some.inj (show some (a19, FieldType.array .int) = some q from hq); exact ⟨fun N z => ⟨(fun k h => by cases h), k19', g19, m19, h19⟩, f19⟩
    | k + 8, hq => exact absurd (List.getElem?_eq_some_iff.mp hq).1 (by show ¬ (k + 8 < 8); omega)
  · exact va_Nc.of (hn (.not (.castable "MobileMaker$Weight" "MobileMaker$Rod")) (by decide +kernel))
  · exact va_Nc.of (hn (.not (.castable "MobileMaker$Plate" "MobileMaker$Rod")) (by decide +kernel))
  · exact va_Nc.of (hn (.not (.castable "MobileMaker$Weight" "MobileMaker$Plate")) (by decide +kernel))
  · exact va_Nc.of (hn (.not (.castable "MobileMaker$Rod" "MobileMaker$Plate")) (by decide +kernel))
/-- the script, as row 0 -/
def gS (b L : Nat) (xs : Nat → Int32) : Hp := fun i q => if i = 0 then (if q = 0 then (b : Int) else if q = 1 then (L : Int) else (xs (q - 2)).toInt) else 0
theorem gS0 (b L : Nat) (xs : Nat → Int32) : gS b L xs 0 0 = (b : Int) := rfl
theorem gS1 (b L : Nat) (xs : Nat → Int32) : gS b L xs 0 1 = (L : Int) := rfl
theorem gS2 (b L : Nat) (xs : Nat → Int32) (q : Nat) : gS b L xs 0 (2 + q) = (xs q).toInt := by
  unfold gS
  rw [if_pos rfl, if_neg (by omega), if_neg (by omega), show 2 + q - 2 = q by omega]
set_option maxHeartbeats 4000000 in
/-- from the entry, for every script of at most 3072 ints, the law comes to its end with true -/
theorem whole_start {p : Program} {e : Env} {s : State} {m : MethodId} {below : List Frame} {meth : Method} {c : Code} (l : Launch) {b L : Nat} {xs : Nat → Int32} (hst : l.stackTraces = false) (hnm : meth.name = miL_law.1.1.name) (hL : L ≤ 3072) (C0 : lw_At p s m meth c b L xs) : W p l e room_1 s m #[Value.ref b] below meth c s.heap [] 0 0 (lw_Z below #[Value.ref b] s) (entryFrame m ([Value.ref b] : List Value).toArray 7) := by
  obtain ⟨hx, hb, hr, hml, hown, hts, hX, hbl, hlocks, hgv⟩ := C0
  have htb : ∀ w ∈ tbG, w.before #[Value.ref b] s = true := fun w hw => hts w (List.mem_filter.mp hw).1
  obtain ⟨scr, x1, x2, x3, x4, x5⟩ := hX
  obtain ⟨D, dA, e20, hK⟩ := KK_start hts hgv (cS := scr.cls) x2.2
  obtain ⟨b1, hb1⟩ : ∃ b1, s.heap.size = b1 + 1 := ⟨s.heap.size - 1, by omega⟩
  have V0 := lw_enter (A := b) (d := 0) (N := (L : Int)) (w := fun q => (xs q).toInt) (P := fun v _ _ _ => v = some (I_ 1)) (g := gS b L xs) ⟨rfl, rfl, gS2 b L xs⟩ (fun q => i3_toInt _) (by omega) (fun _ _ _ => rfl)
  rw [lg_entry_eq]
  have hl := lv_entry ([.ref b]) (n := 7) (Nat.le_of_ble_eq_true rfl)
  generalize (lg_sl ([.ref b]) ++ List.replicate (7 - (lg_sl ([.ref b])).length) Slot.unset).toArray = ls at hl ⊢
  have hl : lv_has ls 7 (lmap b1 [(0, .retAddr b)]) := hl
  have hP : Pic D dA b1 1 SK0 (gS b L xs) s.heap := by
    refine ⟨hb1, fun i h1 h2 => ?_, fun i k h1 h2 => ?_, ?_⟩
    · exfalso; omega
    · exfalso; omega
    · refine ⟨by show (b : Int).toNat ≤ b1; omega, ⟨scr, x1, e20.symm, x2.1, x3, x4, fun j hj => ?_⟩, by rw [gS1]; omega, fun j => ?_⟩
      · show _ = some (Value.int (Int32.ofInt (gS b L xs 0 (2 + j))))
        rw [gS2, Int32.ofInt_toInt]
        exact x5 j hj
      · rw [gS2]
        exact i3_toInt _
  refine V0 p l e room_1 s m #[Value.ref b] below meth c b1 D dA (lw_Z below #[Value.ref b] s) ⟨hx, hb, hml, hown, htb, hK, ⟨by omega, hst, s, #[Value.ref b], hts, hgv, hb1, State.WarmedH.refl s, fun _ _ => rfl⟩, hnm, ⟨by decide, by decide, Nat.le_refl _, Nat.le_refl _⟩, deL_law⟩ (fun v n' S' g' hv hrk H locs ls pc k z hk hz hPic hS hdg => ?_) s.heap [] ls hl hP va_S.rf
  have hv : v = some (I_ 1) := hv
  subst hv
  refine va_forget (fun q hq => ?_) ?_
  · have : b1 < q.base := hS.2.2 q hq
    omega
  refine W.widen (k := 601024) (n := 7293034) hk hz ?_
  have e1 : (((some (I_ 1)).map (cv b1)).toList : List Value) = [Value.int 1] := rfl
  rw [e1]
  exact lw_ret hx hb hr hlocks hdg
set_option maxHeartbeats 4000000 in
theorem lw_walk (l : Launch) (hst : l.stackTraces = false) (b : Addr) (xs : List Int32) : MetFree l x (headSpec (Jvm.Cond.code x code maxLocals ret :: tables_1) room_1) (lw_P b xs) (fun _ _ _ _ _ => True) lw_Q := by
  refine MetFree.of_bodyS (code := code) (maxLocals := maxLocals) (ret := ret) (by decide) ?_ ?_
  · intro args s m h hn
    obtain ⟨meth, c, h1, h2, h3, h4, h5, h6, -, -⟩ := Cond.code_spec hn (atoms_spec (ws := Jvm.Cond.code x code maxLocals ret :: tables_1) h _ List.mem_cons_self)
    exact ⟨meth, c, h1, h2, h3, h4, h5, h6⟩
  · intro p e s m args below meth c s₁ B hml0 hP _
    obtain ⟨rfl, hx, hbd, hgv⟩ := hP
    obtain ⟨scr, harrAt, hlist, hof, hsmall⟩ := hx
    obtain ⟨hcb, hkn, -, -⟩ := State.arrayAt?_spec harrAt
    have hown : s.vm.findClass R_law = some m.cls := findClass_of_methodNamed B.named
    have hts0 : ∀ c ∈ (Jvm.Cond.code x code maxLocals ret :: tables_1), c.before #[Value.ref b] s = true := atoms_spec (ws := Jvm.Cond.code x code maxLocals ret :: tables_1) B.pre
    have hts : ∀ w ∈ lw_tbl, w.before #[Value.ref b] s = true := k2_hts_sels lw_privs (fun w hw => hts0 w (List.mem_cons_of_mem _ hw)) lw_privs_ok
    have hml : c.maxLocals = 7 := B.maxLocals_eq (hts0 _ List.mem_cons_self)
    have X₀ : Stand p l e room_1 s m #[Value.ref b] below meth c s₁ [] 0 0 := Stand.of_body B
    have hh0 : s₁.heap = s.heap := by rw [B.state]; rfl
    have hsz : scr.slots.size = xs.length := by rw [← Array.length_toList, hlist, List.length_map]
    have hval : ∀ j : Nat, j < xs.length → scr.slots[j]? = some (.int (xs.getD j 0)) := fun j hj => by
      rw [← Array.getElem?_toList, hlist]
      simp [hj]
    have hbl : b < s.heap.size := (Array.getElem?_eq_some_iff.mp hcb).1
    have hX : va_X b xs.length (fun j => xs.getD j 0) s s.heap := ⟨scr, hcb, hof, hkn, hsz, hval⟩
    have K : W p l e room_1 s m #[Value.ref b] below meth c s₁.heap [] 0 0 (lw_Z below #[Value.ref b] s) (entryFrame m ([Value.ref b] : List Value).toArray 7) := by
      rw [hh0]
      exact whole_start l hst (name_of_methodNamed B.named B.method).1 hbd ⟨B.exec, B.bytes, B.returns, hml, hown, hts, hX, hbl, B.notSynchronized, hgv⟩
    obtain ⟨t, a1, o, b1, b2, b3⟩ := K s₁ rfl X₀
    exact ⟨t, o, a1, b1, b2, b3⟩
theorem lw_pre_spec {args : Array Value} {s : State} (h : (Jvm.Cond.and given_1 narrow_1).before args s = true) (hr : rest_1_c.before args s = true) : ∃ (b : Addr) (xs : List Int32), lw_P b xs args s := by
  have hs := flat_of_before _ h
  have hq := flat_of_before _ hr
  have hc : (Cond.count 1).before args s = true := hs _ (by decide +kernel)
  have harr : (Cond.arrayOf (.arg 0) .int).before args s = true := hs _ (by decide +kernel)
  have hle : (Cond.le (.length (.arg 0)) (.int 3072)).before args s = true := hs _ (by decide +kernel)
  have hlen : (Cond.isInt (.length (.arg 0))).before args s = true := hq _ (by decide +kernel)
  have hall : (Cond.all (.arg 0) (.isInt (.elem (.arg 0) (.index 0)))).before args s = true := hq _ (by decide +kernel)
  obtain ⟨b, xs, hb, hx⟩ := State.ints_of_pre rfl harr hlen hall
  have hsm : xs.length < 2 ^ 31 := hx.choose_spec.2.2.2
  have hev : (Term.length (.arg 0)).eval args s none [] s = some (.int xs.length.toInt32) := hx.length_eval hb
  have hv := Cond.le_ints hev (show (Term.int 3072).eval args s none [] s = some (.int 3072) from rfl)
  have hd : xs.length.toInt32 ≤ 3072 := by
    simpa [Cond.before, Cond.holds, hv] using hle
  have hN : xs.length ≤ 3072 := (Int32.ofNat_le_ofNat hsm (by decide)).mp (show Int32.ofNat xs.length ≤ Int32.ofNat 3072 from hd)
  exact ⟨b, xs, Cond.one_arg hc (show args[0]? = some (.ref b) from hb), hx, hN, h⟩
theorem lw_comes (l : Launch) (hst : l.stackTraces = false) : Comes l x (Jvm.Cond.code x code maxLocals ret :: tables_1) room_1 (fun tb e args s => Calls_1 tb e args s ∧ rest_1 tb e args s ∧ Pre_1 tb e args s)
    (fun _ _ args s o t => lw_Q args s o t) := by
  intro p e ha hc hk s m args below hf hfit hheap happ hpre
  obtain ⟨b, xs, hP⟩ := lw_pre_spec hpre.2.2 hpre.2.1
  obtain ⟨k, o, h1, h2, h3, hQ⟩ := lw_walk l hst b xs p e ha hc hk s m args below hf ((Spec.applies_iff_loose hf).mp happ).1 hP trivial
  exact ⟨k, o, h1, h2, h3, hQ⟩
theorem lw_frame {s t : State} {o : Outcome} {args : Array Value} (h : Framed s o t [] 601024 7293034) :
    Framed s o t (fieldLocs frame_1_writes args s ++ arrayLocs frame_1_arrays args s ++ staticLocs frame_1_statics s) 601024 7293034 := h
theorem lw_limb (L : Cond) (hL : ∀ (args : Array Value) (s t : State), L.after args s (.returned (some (.int 1))) t = true) :
    ArmFor flags0 classFile x code maxLocals ret World_1 tables_1 room_1 Calls_1 rest_1 Pre_1
      (fun tb e a s o t => postC L tb e a s o t ∧ Framed s o t (fieldLocs frame_1_writes a s ++ arrayLocs frame_1_arrays a s ++ staticLocs frame_1_statics s) 601024 7293034) := by
  intro l hfl _ _ p e ha hc hk s m args below hf hfit hheap happ hpre
  obtain ⟨k, o, h1, h2, h3, rfl, hF⟩ := lw_comes l (by unfold Launch.stackTraces; rw [hfl]; decide +kernel) p e ha hc hk s m args below hf hfit hheap happ hpre
  exact ⟨k, _, h1, h2, h3, hL args s _, lw_frame hF⟩
theorem i_vc : Claimed_1_1 ∧ Claimed_1_2 := ⟨lw_limb limb_1_1 (fun args s t => by simp [limb_1_1, Cond.after, Cond.holds, Cond.value]), lw_limb limb_1_2 (fun args s t => Cond.after_iff.mpr (by
  first | (rw [show limb_1_2 = Cond.eq .result (.int 1) from rfl, Cond.eq_ints (x := 1) (y := 1) rfl rfl]; simp; done) | (simp [limb_1_2, Cond.value, Term.eval]; done)))⟩
