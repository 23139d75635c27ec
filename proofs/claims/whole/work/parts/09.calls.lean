/-! CALLS -/
section VCalls
variable {p : Program} {l : Launch} {e : Env} {R : Room} {s : State} {m : MethodId} {args : Array Value} {below : List Frame} {meth : Method} {c : Code} {H : Heap} {locs : List Loc} {k z : Nat} {Q : State → Prop}
theorem w_run {mc ms pc b : Nat} {ls : Array Slot} {st0 rest : List Value} {r : Option FieldType} {P' : Pst} {D : va_G} {dA : Nat → ClassId} {a : Array Value} (hr : va_Run p l e R s m args below meth c H locs k z mc ms (F0 m pc ls st0) rest (QcM r P' b D dA a) (AA b)) (hS : va_S (AA b) s.heap H locs)
    (kk : ∀ (v : Option Value) (n' : Nat) (S' : Nat → Shp) (g' : Hp) (H1 : Heap) (locs1 : List Loc), P' v n' S' g' → Pic D dA b n' S' g' H1 → va_S (AA b) s.heap H1 locs1 → W p l e R s m args below meth c H1 locs1 (k + mc) (z + ms) Q (F0 m (pc + 3) ls ((v.map (cv b)).toList ++ rest))) : W p l e R s m args below meth c H locs k z Q (F0 m pc ls st0) := by
  intro T hT X
  obtain ⟨v, st₀, t, T', L, h0, X', hL, e1, e2, ⟨⟨v', n', S', g', hv, hp, hrk, hpic⟩, hz, hk⟩, st⟩ := hr T hT X
  cases hv
  rw [h0] at hz hk
  obtain ⟨t2, a1, b1⟩ := kk v' n' S' g' T'.heap (locs ++ L) hp (by rw [e1]; exact hpic)
    ⟨Nat.le_trans hS.1 (by rw [e1]; exact hz), fun q h1 h2 => by rw [e1, hk q (Nat.lt_of_lt_of_le h1 hS.1) h2]; exact hS.2.1 q h1 h2, fun q hq => by
      rcases List.mem_append.mp hq with h | h
      · exact hS.2.2 q h
      · exact hL q h⟩ T' rfl X'
  exact ⟨t2, st t2 a1, b1⟩
end VCalls
/-- what a call needs of the tables -/
def LkB (M M' : MI) (idx na : Nat) : Prop := (Cond.code M'.1.1 M'.1.2.2 M'.2.1.1 M'.2.1.2 ∈ tbG ∧ Cond.initialized M'.1.1.cls ∈ tbG ∧ Cond.methodLink M.1.2.1 idx M'.1.1 ∈ tbG) ∧ (M'.1.1.cls ≠ "java/lang/invoke/MethodHandle" ∧ M'.1.1.cls ≠ "java/lang/invoke/VarHandle" ∧ (parseMethodDescriptor M'.1.1.desc).map (fun d => d.parameters.length) = some na) ∧ M'.2.1.1 ≤ 40
def LkS (M M' : MI) (idx na : Nat) : Prop := LkB M M' idx na ∧ Cond.static M'.1.1 ∈ tbG
/-- .. of a method of an object of the class ci -/
def LkV (M M' : MI) (idx na ci : Nat) : Prop := LkB M M' idx na ∧ Cond.instanceMethod M'.1.1 ∈ tbG ∧ ∃ (C : String) (T : u_T) (N : Nat), vwCl[ci]? = some (C, T, N) ∧ Cond.selects C M'.1.1 M'.1.1 ∈ tbG
def LkI (M M' : MI) (idx na : Nat) : Prop := LkB M M' idx na ∧ M'.1.1.name = "<init>" ∧ Cond.instanceMethod M'.1.1 ∈ tbG
theorem wsM_good (M' : MI) (h : Cond.code M'.1.1 M'.1.2.2 M'.2.1.1 M'.2.1.2 ∈ tbG) : GoodIn tbG (wsM M') := fun w hw => by
  rcases List.mem_cons.mp hw with e | e
  · subst e; exact ⟨h, tbG_good h⟩
  · exact ⟨e, tbG_good e⟩
theorem PcM_blind {l : Launch} (b : Nat) (D : va_G) (dA : Nat → ClassId) (as : List Value) (n : Nat) (S : Nat → Shp) (g : Hp) : FrameBlind (PcM l b D dA as n S g) := fun a U gg mk q => ⟨q.1, q.2.1, KK.same (u := U) (U := U.calling gg mk a) rfl q.2.2.1, q.2.2.2.1, q.2.2.2.2⟩
theorem GG.at {l : Launch} {b : Nat} {s U : State} {H : Heap} {locs : List Loc} (h : b < s.heap.size ∧ GG l b s) (hS : va_S (AA b) s.heap H locs) (hU : U.heap = H) (hW : s.WarmedH U.vm) : GG l b U := by
  obtain ⟨hb, h1, s0, a0, h2, h3, h4, h5, h6⟩ := h
  exact ⟨h1, s0, a0, h2, h3, h4, State.WarmedH.trans h5 hW, fun q hq => by rw [hU, hS.2.1 q (by omega) (by show ¬ b < q; omega)]; exact h6 q hq⟩
theorem PcM_at {l : Launch} {b : Nat} {D : va_G} {dA : Nat → ClassId} {as : List Value} {n : Nat} {S : Nat → Shp} {g : Hp} {H : Heap} {s U : State} (hP : Pic D dA b n S g H) (hK : KK D dA s) (hn : 0 < n) (hU : U.heap = H) (hW : s.WarmedH U.vm) {locs : List Loc} (hG : b < s.heap.size ∧ GG l b s) (hS : va_S (AA b) s.heap H locs) : PcM l b D dA as n S g (as.map (cv b)).toArray U :=
  ⟨rfl, by rw [hU]; exact hP, hK.warm hW, hn, GG.at hG hS hU hW⟩
theorem LkB.cw {l : Launch} {M M' : MI} {d idx na : Nat} {p : Program} {R : Room} {s : State} {m : MethodId} {args : Array Value} {meth : Method} {c : Code} {b : Nat} {D : va_G} {dA : Nat → ClassId} (h : LkB M M' idx na) (C : Ctx l M (d + 1) p R s m args meth c b D dA) : CallB R s args M.1.2.1 idx M'.1.1 M'.1.2.2 M'.2.1.1 M'.2.1.2 (wsM M') (rmM M' d) M'.2.2.1.1 M'.2.2.1.2 na :=
  callB_of na C.2.2.2.2.1 (wsM_good M' h.1.1) rfl rfl rfl (C.2.2.2.2.1 _ h.1.2.1) (C.2.2.2.2.1 _ h.1.2.2) h.2.1 ⟨C.2.2.2.2.2.2.2.2.1.1, by have h1 := C.2.2.2.2.2.2.2.2.1.2.1; have h2 := h.2.2; show 8 + (M'.2.1.1 + 11) + 64 * d ≤ R.locals; omega⟩
theorem cats_le {b : Nat} {st : List Value} (h : ((st.map fun v => v.category).sum) ≤ 8) (hr : ∀ v ∈ st, ∀ a, v ≠ .retAddr a) : (((st.map (cv b)).map fun v => v.category).sum) ≤ 8 := by
  have e : (st.map (cv b)).map (fun v => v.category) = st.map (fun v => v.category) := by
    rw [List.map_map]
    exact List.map_congr_left fun v hv => cv_cat b v (hr v hv)
  rw [e]; exact h
/-- the words of a stack -/
def wds (st : List Value) : Bool := decide ((st.map fun v => v.category).sum ≤ 8) && st.all fun v => match v with
  | .retAddr _ => false
  | _ => true
theorem wds_le {b : Nat} {st : List Value} (h : wds st = true) : (((st.map (cv b)).map fun v => v.category).sum) ≤ 8 := by
  unfold wds at h
  rw [Bool.and_eq_true, decide_eq_true_eq, List.all_eq_true] at h
  refine cats_le h.1 fun v hv a e => ?_
  have := h.2 v hv
  rw [e] at this
  cases this
section VCalls2
variable {M M' : MI} {d pc : Nat} {L : List (Nat × Value)} {st : List Value} {n : Nat} {S : Nat → Shp} {g : Hp} {k z : Nat} {P : Pst}
theorem v_callS {idx : Nat} (as : List Value) (j : Nat) (hd : M.2.2.2[j]? = some (pc, .invokestatic idx, 3)) (hl : LkS M M' idx as.length) (hw : wds st = true) (hn : 0 < n) (hk : k + M'.2.2.1.1 ≤ M.2.2.1.1) (hz : z + M'.2.2.1.2 ≤ M.2.2.1.2)
    (hr : Runs M' d as n S g (fun v n' S' g' => V M (d + 1) (pc + 3) L (v.toList ++ st) n' S' g' (k + M'.2.2.1.1) (z + M'.2.2.1.2) P)) : V M (d + 1) pc L (as.reverse ++ st) n S g k z P := by
  intro p l e R s m args below meth c b D dA Q C hq H locs ls hls hP hS
  refine w_run (rest := st.map (cv b)) (va_runS (As := as.map (cv b)) ⟨C.1, C.2.1, C.2.2.1, C.2.2.2.1, C.2.2.2.2.1⟩ (hr l b D dA) ⟨hl.1.cw C, C.2.2.2.2.1 _ hl.2⟩ ⟨PcM_blind b D dA as n S g, fun U hU hW => PcM_at hP C.2.2.2.2.2.1 hn hU hW C.2.2.2.2.2.2.1 hS⟩ rfl (List.length_map _) hls.1 ?_ (by show 2 * 0 + _ ≤ 8; rw [Nat.mul_zero, Nat.zero_add]; exact wds_le hw) (C.dec hd) ⟨Nat.le_trans hk C.2.2.2.2.2.2.2.2.1.2.2.1, Nat.le_trans hz C.2.2.2.2.2.2.2.2.1.2.2.2⟩) hS ?_
  · show (as.reverse ++ st).map (cv b) = (as.map (cv b)).reverse ++ st.map (cv b)
    rw [List.map_append, List.map_reverse]
  · intro v n' S' g' H1 locs1 hv hP1 hS1
    have w := hv p l e R s m args below meth c b D dA Q C hq H1 locs1 ls hls hP1 hS1
    rw [List.map_append] at w
    cases v with
    | none => exact w
    | some x => exact w
theorem v_callV {idx a ci : Nat} (as : List Value) (j : Nat) (hd : M.2.2.2[j]? = some (pc, .invokevirtual idx, 3)) (hl : LkV M M' idx as.length ci) (ha : 0 < a ∧ a < n) (hs : (S a).1 = ci) (hc : ci < 12) (hw : wds st = true) (hk : k + M'.2.2.1.1 ≤ M.2.2.1.1) (hz : z + M'.2.2.1.2 ≤ M.2.2.1.2)
    (hr : Runs M' d (.ref a :: as) n S g (fun v n' S' g' => V M (d + 1) (pc + 3) L (v.toList ++ st) n' S' g' (k + M'.2.2.1.1) (z + M'.2.2.1.2) P)) : V M (d + 1) pc L (as.reverse ++ .ref a :: st) n S g k z P := by
  intro p l e R s m args below meth c b D dA Q C hq H locs ls hls hP hS
  obtain ⟨a', rfl⟩ : ∃ a', a = a' + 1 := ⟨a - 1, by omega⟩
  obtain ⟨Cn, T, N, g1, g2⟩ := hl.2.2
  obtain ⟨cell, q1, q2, q3, q4⟩ := hP.obj ha hs hc
  have hfc := (C.2.2.2.2.2.1.1.1 ci _ g1).2.1
  refine w_run (rest := st.map (cv b)) (va_runV (As := as.map (cv b)) (b := b + (a' + 1)) (C := Cn) ⟨C.1, C.2.1, C.2.2.1, C.2.2.2.1, C.2.2.2.2.1⟩ (hr l b D dA) ⟨hl.1.cw C, C.2.2.2.2.1 _ hl.2.1, C.2.2.2.2.1 _ g2⟩ ⟨PcM_blind b D dA _ n S g, ⟨cell, q1, by rw [q3]; rfl, by rw [q2]; exact hfc⟩, fun U hU hW => PcM_at hP C.2.2.2.2.2.1 (by omega) hU hW C.2.2.2.2.2.2.1 hS⟩ rfl (List.length_map _) hls.1 ?_ (by show 2 * 0 + _ ≤ 8; rw [Nat.mul_zero, Nat.zero_add]; exact wds_le hw) (C.dec hd) ⟨Nat.le_trans hk C.2.2.2.2.2.2.2.2.1.2.2.1, Nat.le_trans hz C.2.2.2.2.2.2.2.2.1.2.2.2⟩) hS ?_
  · show (as.reverse ++ .ref (a' + 1) :: st).map (cv b) = (as.map (cv b)).reverse ++ .ref (b + (a' + 1)) :: st.map (cv b)
    rw [List.map_append, List.map_reverse]; rfl
  · intro v n' S' g' H1 locs1 hv hP1 hS1
    have w := hv p l e R s m args below meth c b D dA Q C hq H1 locs1 ls hls hP1 hS1
    rw [List.map_append] at w
    cases v with
    | none => exact w
    | some x => exact w
theorem v_callI {idx a : Nat} (as : List Value) (j : Nat) (hd : M.2.2.2[j]? = some (pc, .invokespecial idx, 3)) (hl : LkI M M' idx as.length) (hret : M'.2.1.2 = none) (ha : 0 < a ∧ a < n) (hw : wds st = true) (hk : k + M'.2.2.1.1 ≤ M.2.2.1.1) (hz : z + M'.2.2.1.2 ≤ M.2.2.1.2)
    (hr : Runs M' d (.ref a :: as) n S g (fun v n' S' g' => V M (d + 1) (pc + 3) L (v.toList ++ st) n' S' g' (k + M'.2.2.1.1) (z + M'.2.2.1.2) P)) : V M (d + 1) pc L (as.reverse ++ .ref a :: st) n S g k z P := by
  intro p l e R s m args below meth c b D dA Q C hq H locs ls hls hP hS
  obtain ⟨a', rfl⟩ : ∃ a', a = a' + 1 := ⟨a - 1, by omega⟩
  have cw := hl.1.cw C
  rw [hret] at cw
  refine w_run (rest := st.map (cv b)) (va_runI (As := as.map (cv b)) (b := b + (a' + 1)) ⟨C.1, C.2.1, C.2.2.1, C.2.2.2.1, C.2.2.2.2.1⟩ (hr l b D dA) ⟨cw, hl.2.1, C.2.2.2.2.1 _ hl.2.2⟩ ⟨PcM_blind b D dA _ n S g, fun U hU hW => PcM_at hP C.2.2.2.2.2.1 (by omega) hU hW C.2.2.2.2.2.2.1 hS⟩ rfl (List.length_map _) hls.1 ?_ (by show 2 * 0 + _ ≤ 8; rw [Nat.mul_zero, Nat.zero_add]; exact wds_le hw) (C.dec hd) ⟨Nat.le_trans hk C.2.2.2.2.2.2.2.2.1.2.2.1, Nat.le_trans hz C.2.2.2.2.2.2.2.2.1.2.2.2⟩) hS ?_
  · show (as.reverse ++ .ref (a' + 1) :: st).map (cv b) = (as.map (cv b)).reverse ++ .ref (b + (a' + 1)) :: st.map (cv b)
    rw [List.map_append, List.map_reverse]; rfl
  · intro v n' S' g' H1 locs1 hv hP1 hS1
    have w := hv p l e R s m args below meth c b D dA Q C hq H1 locs1 ls hls hP1 hS1
    rw [List.map_append] at w
    cases v with
    | none => exact w
    | some x => exact w
end VCalls2
