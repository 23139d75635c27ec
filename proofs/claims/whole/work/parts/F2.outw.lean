/-! OUT: the words of its throw -/
abbrev nseE : String := "java/util/NoSuchElementException"
abbrev nseN : List String := ["java/lang/RuntimeException", "java/lang/Exception"]
set_option maxRecDepth 100000 in
theorem atX_in : ((vx_atX RX11 357 nseE 13 prog_23_method_4_code nseN).all fun w => decide (w ∈ tables_1)) = true := by decide +kernel
theorem atX_gd : ((vx_atX RX11 357 nseE 13 prog_23_method_4_code nseN).all fun w => goodWord w || (decide (w = Cond.castable nseE nseE) || (decide (w = Cond.declares (Bundle.initS "java/lang/RuntimeException")) || (decide (w = Cond.declares (Bundle.initS "java/lang/Exception")) || decide (w = Cond.declares (Bundle.initS Bundle.tN)))))) = true := by decide +kernel
theorem atX_ot : ((vx_atX RX11 357 nseE 13 prog_23_method_4_code nseN).all vx_ot) = true := by decide +kernel
theorem nse0 : decode prog_23_method_4_code 0 = .ok (.aload_n 0, 1) := by decide +kernel
theorem nse1 : decode prog_23_method_4_code 1 = .ok (.aload_n 1, 1) := by decide +kernel
theorem nse2 : decode prog_23_method_4_code 2 = .ok (.invokespecial 13, 3) := by decide +kernel
theorem nse5 : decode prog_23_method_4_code 5 = .ok (.return_, 1) := by decide +kernel
theorem nsef : Bundle.fit nseE = true ∧ ∀ n ∈ nseN, Bundle.fit n = true := by decide +kernel
theorem nse_link : Cond.classLink RX11 353 nseE ∈ tbG := tbG_in (List.mem_append_right _ (by decide +kernel)) rfl
theorem nse_ini : Cond.initialized nseE ∈ tbG := tbG_in (List.mem_append_right _ (by decide +kernel)) rfl
theorem nse_str : Cond.stringRef RX11 355 "no such byte" ∈ lw_tbl := List.mem_append_right _ (by decide +kernel)
theorem nse_u1 : Cond.laysStatic Bundle.tN "UNASSIGNED_STACK" Bundle.steD ∈ lw_tbl := List.mem_append_right _ (by decide +kernel)
theorem nse_u2 : Cond.laysStatic Bundle.tN "SUPPRESSED_SENTINEL" Bundle.listD ∈ lw_tbl := List.mem_append_right _ (by decide +kernel)
theorem nse_u3 : Cond.initialized Bundle.tN ∈ lw_tbl := List.mem_append_right _ (by decide +kernel)
theorem nse_cst : Cond.castable nseE nseE ∈ lw_tbl := List.mem_append_right _ (by decide +kernel)
/-- all words of the throw hold, wherever the tables' good words hold and the law's entry is behind -/
theorem atX_at {l : Launch} {b : Nat} {s : State} {args : Array Value} (ht : ∀ w ∈ tbG, w.before args s = true) (hG : GG l b s) : ∀ w ∈ vx_atX RX11 357 nseE 13 prog_23_method_4_code nseN, w.before args s = true := fun w hw => by
  obtain ⟨_, s0, a0, h0, _, _, hW, _⟩ := hG
  have h1 := List.all_eq_true.mp atX_in w hw
  have h2 := List.all_eq_true.mp atX_gd w hw
  rw [decide_eq_true_iff] at h1
  have hm : w ∈ lw_tbl := List.mem_append_right _ h1
  have h3 := h0 w hm
  rw [Bool.or_eq_true] at h2
  rcases h2 with h2 | h2
  · exact ht w (tbG_in hm h2)
  · rw [Bool.or_eq_true, Bool.or_eq_true, Bool.or_eq_true, decide_eq_true_iff, decide_eq_true_iff, decide_eq_true_iff, decide_eq_true_iff] at h2
    rcases h2 with e | e | e | e <;> subst e
    · exact va_Nw.use rfl ((va_Nw.of rfl h3).warmC hW)
    · exact va_Nw.use rfl ((va_Nw.of rfl h3).warmD hW)
    · exact va_Nw.use rfl ((va_Nw.of rfl h3).warmD hW)
    · exact va_Nw.use rfl ((va_Nw.of rfl h3).warmD hW)
