/-! A STATIC CALL OF A METHOD WITH A TABLE -/
def LkSH (M M' : MI) (hh : List (Nat × Nat × Nat × Nat)) (idx na : Nat) : Prop := (Cond.codeWith M'.1.1 M'.1.2.2 M'.2.1.1 M'.2.1.2 hh ∈ tbG ∧ Cond.initialized M'.1.1.cls ∈ tbG ∧ Cond.methodLink M.1.2.1 idx M'.1.1 ∈ tbG) ∧ (M'.1.1.cls ≠ "java/lang/invoke/MethodHandle" ∧ M'.1.1.cls ≠ "java/lang/invoke/VarHandle" ∧ (parseMethodDescriptor M'.1.1.desc).map (fun d => d.parameters.length) = some na) ∧ M'.2.1.1 ≤ 40 ∧ Cond.static M'.1.1 ∈ tbG
theorem wsH_good (M' : MI) (hh : List (Nat × Nat × Nat × Nat)) (h : Cond.codeWith M'.1.1 M'.1.2.2 M'.2.1.1 M'.2.1.2 hh ∈ tbG) : GoodIn tbG (wsH M' hh) := fun w hw => by
  rcases List.mem_cons.mp hw with e | e
  · subst e; exact ⟨h, tbG_good h⟩
  · exact ⟨e, tbG_good e⟩
section CallSH
variable {M M' : MI} {hh : List (Nat × Nat × Nat × Nat)} {d pc : Nat} {L : List (Nat × Value)} {st : List Value} {n : Nat} {S : Nat → Shp} {g : Hp} {k z : Nat} {P : Pst}
theorem v_callSH {idx : Nat} (as : List Value) (j : Nat) (hd : M.2.2.2[j]? = some (pc, .invokestatic idx, 3)) (hl : LkSH M M' hh idx as.length) (hw : wds st = true) (hn : 0 < n) (hk : k + M'.2.2.1.1 ≤ M.2.2.1.1) (hz : z + M'.2.2.1.2 ≤ M.2.2.1.2)
    (hr : RunsH M' hh d as n S g (fun v n' S' g' => V M (d + 1) (pc + 3) L (v.toList ++ st) n' S' g' (k + M'.2.2.1.1) (z + M'.2.2.1.2) P)) : V M (d + 1) pc L (as.reverse ++ st) n S g k z P := by
  intro p l e R s m args below meth c b D dA Q C hq H locs ls hls hP hS
  have hT : GoodIn tbG (va_wsS M.1.2.1 idx M'.1.1 (wsH M' hh)) := fun w hw => by
    unfold va_wsS at hw
    rcases List.mem_append.mp hw with q | q
    · have : w ∈ tbG := by
        simp only [List.mem_cons, List.not_mem_nil, or_false] at q
        rcases q with e | e | e <;> subst e
        all_goals first | exact hl.1.2.2 | exact hl.1.2.1 | exact hl.2.2.2
      exact ⟨this, tbG_good this⟩
    · exact wsH_good M' hh hl.1.1 w q
  have cw := vx_cwSW (R := R) (s := s) (args := args) (mc := M'.2.2.1.1) (ms := M'.2.2.1.2) (rm := rmM M' d) as.length C.2.2.2.2.1 hT rfl rfl rfl hl.2.1 ⟨C.2.2.2.2.2.2.2.2.1.1, by have h1 := C.2.2.2.2.2.2.2.2.1.2.1; have h2 := hl.2.2.1; show 8 + (M'.2.1.1 + 11) + 64 * d ≤ R.locals; omega⟩
  refine w_run (rest := st.map (cv b)) (vx_runSW (As := as.map (cv b)) ⟨C.1, C.2.1, C.2.2.1, C.2.2.2.1, C.2.2.2.2.1⟩ (hr l b D dA) cw ⟨PcM_blind b D dA as n S g, fun U hU hW => PcM_at hP C.2.2.2.2.2.1 hn hU hW C.2.2.2.2.2.2.1 hS⟩ rfl (List.length_map _) hls.1 ?_ (by show 2 * 0 + _ ≤ 8; rw [Nat.mul_zero, Nat.zero_add]; exact wds_le hw) (C.dec hd) ⟨Nat.le_trans hk C.2.2.2.2.2.2.2.2.1.2.2.1, Nat.le_trans hz C.2.2.2.2.2.2.2.2.1.2.2.2⟩) hS ?_
  · show (as.reverse ++ st).map (cv b) = (as.map (cv b)).reverse ++ st.map (cv b)
    rw [List.map_append, List.map_reverse]
  · intro v n' S' g' H1 locs1 hv hP1 hS1
    have w := hv p l e R s m args below meth c b D dA Q C hq H1 locs1 ls hls hP1 hS1
    rw [List.map_append] at w
    cases v with
    | none => exact w
    | some x => exact w
end CallSH
