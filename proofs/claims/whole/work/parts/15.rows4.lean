/-! ROWS FOR THE CLASS'S OWN OBJECTS -/
/-- a tray: sort, many, and its row behind it -/
abbrev Tr (n : Nat) (S : Nat → Shp) (r : Nat) : Prop := (0 < r ∧ r < n) ∧ (S r).1 = 8 ∧ (S r).2.2 0 = none ∧ (S r).2.2 1 = none ∧ (S r).2.2 2 = some ((r + 1 : Nat) : Int) ∧ (0 < r + 1 ∧ r + 1 < n) ∧ (S (r + 1)).1 = 14 ∧ (S (r + 1)).2.1 = 16
abbrev Ar (n : Nat) (S : Nat → Shp) (r t N : Nat) : Prop := (0 < r ∧ r < n) ∧ (S r).1 = t ∧ (S r).2.1 = N
theorem ob9 {n : Nat} {dy : Nat → Shp} (hn : 100 ≤ n) : Ob n (W0 dy) 9 6 := ⟨al 9 rfl hn, rfl, fun _ => rfl⟩
theorem ob10 {n : Nat} {dy : Nat → Shp} (hn : 100 ≤ n) : Ob n (W0 dy) 10 6 := ⟨al 10 rfl hn, rfl, fun _ => rfl⟩
theorem tr41 {n : Nat} {dy : Nat → Shp} (hn : 100 ≤ n) : Tr n (W0 dy) 41 := ⟨al 41 rfl hn, rfl, rfl, rfl, rfl, al 42 rfl hn, rfl, rfl⟩
theorem tr43 {n : Nat} {dy : Nat → Shp} (hn : 100 ≤ n) : Tr n (W0 dy) 43 := ⟨al 43 rfl hn, rfl, rfl, rfl, rfl, al 44 rfl hn, rfl, rfl⟩
theorem tr45 {n : Nat} {dy : Nat → Shp} (hn : 100 ≤ n) : Tr n (W0 dy) 45 := ⟨al 45 rfl hn, rfl, rfl, rfl, rfl, al 46 rfl hn, rfl, rfl⟩
theorem tr47 {n : Nat} {dy : Nat → Shp} (hn : 100 ≤ n) : Tr n (W0 dy) 47 := ⟨al 47 rfl hn, rfl, rfl, rfl, rfl, al 48 rfl hn, rfl, rfl⟩
theorem tr49 {n : Nat} {dy : Nat → Shp} (hn : 100 ≤ n) : Tr n (W0 dy) 49 := ⟨al 49 rfl hn, rfl, rfl, rfl, rfl, al 50 rfl hn, rfl, rfl⟩
theorem tr51 {n : Nat} {dy : Nat → Shp} (hn : 100 ≤ n) : Tr n (W0 dy) 51 := ⟨al 51 rfl hn, rfl, rfl, rfl, rfl, al 52 rfl hn, rfl, rfl⟩
theorem isK_r (S : Nat → Shp) (r ci : Nat) : i3 (isK S r ci) := by
  unfold isK
  split
  · decide
  · split <;> decide
theorem asgR : Asg 5 "MobileMaker$Rod" := ⟨RX6, TX6, 16, rfl, Or.inl rfl⟩
theorem asgP5 : Asg 5 "MobileMaker$Part" := ⟨RX6, TX6, 16, rfl, Or.inr (by decide)⟩
theorem asgP3 : Asg 3 "MobileMaker$Part" := ⟨RX4, TX4, 14, rfl, Or.inr (by decide)⟩
theorem asgP9 : Asg 9 "MobileMaker$Part" := ⟨RX10, TX10, 10, rfl, Or.inr (by decide)⟩
theorem asgT : Asg 8 "MobileMaker$Tray" := ⟨RX9, TX9, 3, rfl, Or.inl rfl⟩
theorem rPI {n : Nat} {S : Nat → Shp} {g : Hp} (w : ∀ i q, 0 < i → i < n → rg (fc (S i).1 q) (g i q)) {a q : Nat} {x : Int} (ha : Pt n S a) (h3 : fc 3 q = 0) (h5 : fc 5 q = 0) (h9 : fc 9 q = 0) (he : g a q = x) : i3 x := by
  rcases ha.2.1 with e | e | e
  · exact rI w ha.1 e h3 he
  · exact rI w ha.1 e h5 he
  · exact rI w ha.1 e h9 he
theorem rPL {n : Nat} {S : Nat → Shp} {g : Hp} (w : ∀ i q, 0 < i → i < n → rg (fc (S i).1 q) (g i q)) {a q : Nat} {x : Int} (ha : Pt n S a) (h3 : fc 3 q = 1) (h5 : fc 5 q = 1) (h9 : fc 9 q = 1) (he : g a q = x) : i6 x := by
  rcases ha.2.1 with e | e | e
  · exact rL w ha.1 e h3 he
  · exact rL w ha.1 e h5 he
  · exact rL w ha.1 e h9 he
theorem up2_c {g : Hp} {i j k q : Nat} {x : Int} (h : j ≠ i) : up2 g i k x j q = g j q := if_neg (fun r => h r.1)
theorem up2_q {g : Hp} {i j k q : Nat} {x : Int} (h : q ≠ k) : up2 g i k x j q = g j q := if_neg (fun r => h r.2)
theorem up2_s {g : Hp} {i k : Nat} {x : Int} : up2 g i k x i k = x := if_pos ⟨rfl, rfl⟩
def ushr3 (x y : Int) : Int := ((Int32.ofInt x).toUInt32 >>> ((Int32.ofInt y).toUInt32 &&& Int32.toUInt32 31)).toInt32.toInt
theorem ushr3_r (x y : Int) : i3 (ushr3 x y) := i3_toInt _
/-- a nest mate's static method -/
def LkN (M M' : MI) (idx na : Nat) (host : String) : Prop := (Cond.code M'.1.1 M'.1.2.2 M'.2.1.1 M'.2.1.2 ∈ tbG ∧ Cond.initialized M'.1.1.cls ∈ tbG ∧ (M.1.2.1, idx, M'.1.1) ∈ nestl) ∧ (M'.1.1.cls ≠ "java/lang/invoke/MethodHandle" ∧ M'.1.1.cls ≠ "java/lang/invoke/VarHandle" ∧ (parseMethodDescriptor M'.1.1.desc).map (fun d => d.parameters.length) = some na) ∧ M'.2.1.1 ≤ 40 ∧ Cond.static M'.1.1 ∈ tbG ∧ host = "MobileMaker"
/-- an inherited method of an object of the class ci, named by the class nm -/
def LkU (M M' : MI) (idx na ci : Nat) (nm : String) : Prop := (Cond.code M'.1.1 M'.1.2.2 M'.2.1.1 M'.2.1.2 ∈ tbG ∧ Cond.initialized M'.1.1.cls ∈ tbG) ∧ (Cond.methodLink M.1.2.1 idx ⟨nm, M'.1.1.name, M'.1.1.desc⟩ ∈ tbG ∧ Cond.sameMethod nm M'.1.1.cls M'.1.1.name M'.1.1.desc ∈ tbG ∧ Cond.instanceMethod M'.1.1 ∈ tbG ∧ ∃ (C : String) (T : u_T) (N : Nat), vwCl[ci]? = some (C, T, N) ∧ Cond.selects C ⟨nm, M'.1.1.name, M'.1.1.desc⟩ M'.1.1 ∈ tbG) ∧ (M'.1.1.cls ≠ "java/lang/invoke/MethodHandle" ∧ M'.1.1.cls ≠ "java/lang/invoke/VarHandle" ∧ (parseMethodDescriptor M'.1.1.desc).map (fun d => d.parameters.length) = some na) ∧ M'.2.1.1 ≤ 40
section VRows6
variable {M M' : MI} {d pc : Nat} {L L' : List (Nat × Value)} {st : List Value} {n : Nat} {S : Nat → Shp} {g : Hp} {k z : Nat} {P : Pst}
theorem v_ineg {x : Int} (j : Nat) (hd : M.2.2.2[j]? = some (pc, .ineg, 1)) (h : V M d (pc + 1) L (I_ (-x) :: st) n S g k z P) : V M d pc L (I_ x :: st) n S g k z P :=
  v_go h fun p l e R s m args below meth c b D dA Q C H locs ls hls w => lv_ineg C.1 C.2.1 (C.dec hd) (by rw [← Int32.ofInt_neg]; exact w)
theorem v_iushr {x y : Int} (j : Nat) (hd : M.2.2.2[j]? = some (pc, .iushr, 1)) (h : V M d (pc + 1) L (I_ (ushr3 x y) :: st) n S g k z P) : V M d pc L (I_ y :: I_ x :: st) n S g k z P :=
  v_go h fun p l e R s m args below meth c b D dA Q C H locs ls hls w => lv_iushr C.1 C.2.1 (C.dec hd) (Int32.ofInt_toInt _).symm w
theorem v_ldcw {index : Nat} {v : Int} (j : Nat) (hd : M.2.2.2[j]? = some (pc, .ldc_w index, 3)) (hc : Cond.constant M.1.2.1 index (Int32.ofInt v) ∈ tbG) (h : V M d (pc + 3) L (I_ v :: st) n S g k z P) : V M d pc L st n S g k z P := by
  intro p l e R s m args below meth c b D dA Q C hq H locs ls hl hP hS
  exact lv_ldcw C.1 C.2.1 C.2.2.2.1 (C.2.2.2.2.1 _ hc) (C.dec hd) (h p l e R s m args below meth c b D dA Q C hq H locs ls hl hP hS)
theorem v_pastP {a r N : Nat} {y : Int} (j : Nat) (hd : M.2.2.2[j]? = some (pc, .aastore, 1)) (ha : 0 < a ∧ a < n) (hs : (S a).1 = 16) (hN : (S a).2.1 = N) (hN2 : N ≤ 100000) (hy : 0 ≤ y ∧ y < (N : Int)) (hr : Pt n S r) (h : V M d (pc + 1) L st n S (up2 g a y.toNat (r : Int)) k z P) : V M d pc L (.ref r :: I_ y :: .ref a :: st) n S g k z P := by
  rcases hr.2.1 with e | e | e
  · exact v_past j hd ha hs hN hN2 hy hr.1 e (by decide) asgP3 h
  · exact v_past j hd ha hs hN hN2 hy hr.1 e (by decide) asgP5 h
  · exact v_past j hd ha hs hN hN2 hy hr.1 e (by decide) asgP9 h
theorem v_callP {idx a : Nat} (as : List Value) (j : Nat) (hd : M.2.2.2[j]? = some (pc, .invokevirtual idx, 3)) (h3 : LkV M M' idx as.length 3) (h5 : LkV M M' idx as.length 5) (h9 : LkV M M' idx as.length 9) (ha : Pt n S a) (hw : wds st = true) (hk : k + M'.2.2.1.1 ≤ M.2.2.1.1) (hz : z + M'.2.2.1.2 ≤ M.2.2.1.2)
    (hr : Runs M' d (.ref a :: as) n S g (fun v n' S' g' => V M (d + 1) (pc + 3) L (v.toList ++ st) n' S' g' (k + M'.2.2.1.1) (z + M'.2.2.1.2) P)) : V M (d + 1) pc L (as.reverse ++ .ref a :: st) n S g k z P := by
  rcases ha.2.1 with e | e | e
  · exact v_callV as j hd h3 ha.1 e (by decide) hw hk hz hr
  · exact v_callV as j hd h5 ha.1 e (by decide) hw hk hz hr
  · exact v_callV as j hd h9 ha.1 e (by decide) hw hk hz hr
theorem v_callSN {idx : Nat} {host : String} (as : List Value) (j : Nat) (hd : M.2.2.2[j]? = some (pc, .invokestatic idx, 3)) (hl : LkN M M' idx as.length host) (hw : wds st = true) (hn : 0 < n) (hk : k + M'.2.2.1.1 ≤ M.2.2.1.1) (hz : z + M'.2.2.1.2 ≤ M.2.2.1.2)
    (hr : Runs M' d as n S g (fun v n' S' g' => V M (d + 1) (pc + 3) L (v.toList ++ st) n' S' g' (k + M'.2.2.1.1) (z + M'.2.2.1.2) P)) : V M (d + 1) pc L (as.reverse ++ st) n S g k z P := by
  intro p l e R s m args below meth c b D dA Q C hq H locs ls hls hP hS
  obtain ⟨⟨l1, l2, l3⟩, l4, l5, l6, l7⟩ := hl
  subst l7
  have cw : va_CN R s args M.1.2.1 idx M'.1.1 "MobileMaker" M'.1.2.2 M'.2.1.1 M'.2.1.2 (wsM M') (rmM M' d) M'.2.2.1.1 M'.2.2.1.2 as.length :=
    va_cnB as.length C.2.2.2.2.1 (wsM_good M' l1) rfl rfl rfl (C.2.2.2.2.2.1.2.2.2.2.2.1 _ l3) (C.2.2.2.2.1 _ l2) l4 ⟨C.2.2.2.2.2.2.2.2.1.1, by have h1 := C.2.2.2.2.2.2.2.2.1.2.1; show 8 + (M'.2.1.1 + 11) + 64 * d ≤ R.locals; omega⟩
  refine w_run (rest := st.map (cv b)) (va_runSN (As := as.map (cv b)) ⟨C.1, C.2.1, C.2.2.1, C.2.2.2.1, C.2.2.2.2.1⟩ (hr l b D dA) ⟨cw, C.2.2.2.2.1 _ l6, trivial⟩ ⟨PcM_blind b D dA as n S g, fun U hU hW => PcM_at hP C.2.2.2.2.2.1 hn hU hW C.2.2.2.2.2.2.1 hS⟩ rfl (List.length_map _) hls.1 ?_ (by show 2 * 0 + _ ≤ 8; rw [Nat.mul_zero, Nat.zero_add]; exact wds_le hw) (C.dec hd) ⟨Nat.le_trans hk C.2.2.2.2.2.2.2.2.1.2.2.1, Nat.le_trans hz C.2.2.2.2.2.2.2.2.1.2.2.2⟩) hS ?_
  · show (as.reverse ++ st).map (cv b) = (as.map (cv b)).reverse ++ st.map (cv b)
    rw [List.map_append, List.map_reverse]
  · intro v n' S' g' H1 locs1 hv hP1 hS1
    have w := hv p l e R s m args below meth c b D dA Q C hq H1 locs1 ls hls hP1 hS1
    rw [List.map_append] at w
    cases v with
    | none => exact w
    | some x => exact w
theorem v_callU {idx a ci : Nat} {nm : String} (as : List Value) (j : Nat) (hd : M.2.2.2[j]? = some (pc, .invokevirtual idx, 3)) (hl : LkU M M' idx as.length ci nm) (ha : 0 < a ∧ a < n) (hs : (S a).1 = ci) (hc : ci < 12) (hw : wds st = true) (hk : k + M'.2.2.1.1 ≤ M.2.2.1.1) (hz : z + M'.2.2.1.2 ≤ M.2.2.1.2)
    (hr : Runs M' d (.ref a :: as) n S g (fun v n' S' g' => V M (d + 1) (pc + 3) L (v.toList ++ st) n' S' g' (k + M'.2.2.1.1) (z + M'.2.2.1.2) P)) : V M (d + 1) pc L (as.reverse ++ .ref a :: st) n S g k z P := by
  intro p l e R s m args below meth c b D dA Q C hq H locs ls hls hP hS
  obtain ⟨a', rfl⟩ : ∃ a', a = a' + 1 := ⟨a - 1, by omega⟩
  obtain ⟨⟨l1, l2⟩, ⟨l3, l4, l5, Cn, T, N, g1, g2⟩, l6, l7⟩ := hl
  obtain ⟨cell, q1, q2, q3, q4⟩ := hP.obj ha hs hc
  have hfc := (C.2.2.2.2.2.1.1.1 ci _ g1).2.1
  have hG : GoodIn tbG (va_wsU M.1.2.1 idx Cn M'.1.1.cls ⟨nm, M'.1.1.name, M'.1.1.desc⟩ M'.1.1 (wsM M')) := fun w hw => by
    unfold va_wsU at hw
    rcases List.mem_append.mp hw with h | h
    · have hm : w ∈ tbG := by
        rcases List.mem_cons.mp h with h | h
        · rw [h]; exact l3
        rcases List.mem_cons.mp h with h | h
        · rw [h]; exact l4
        rcases List.mem_cons.mp h with h | h
        · rw [h]; exact g2
        rcases List.mem_cons.mp h with h | h
        · rw [h]; exact l5
        rcases List.mem_cons.mp h with h | h
        · rw [h]; exact l2
        · cases h
      exact ⟨hm, tbG_good hm⟩
    · exact wsM_good M' l1 w h
  refine w_run (rest := st.map (cv b)) (va_runU (As := as.map (cv b)) (b := b + (a' + 1)) (C := Cn) ⟨C.1, C.2.1, C.2.2.1, C.2.2.2.1, C.2.2.2.2.1⟩ (hr l b D dA) (va_cwU as.length C.2.2.2.2.1 hG rfl rfl rfl rfl l6 ⟨C.2.2.2.2.2.2.2.2.1.1, by have h1 := C.2.2.2.2.2.2.2.2.1.2.1; show 8 + (M'.2.1.1 + 11) + 64 * d ≤ R.locals; omega⟩) ⟨PcM_blind b D dA _ n S g, ⟨cell, q1, by rw [q3]; rfl, by rw [q2]; exact hfc⟩, fun U hU hW => PcM_at hP C.2.2.2.2.2.1 (by omega) hU hW C.2.2.2.2.2.2.1 hS⟩ rfl (List.length_map _) hls.1 ?_ (by show 2 * 0 + _ ≤ 8; rw [Nat.mul_zero, Nat.zero_add]; exact wds_le hw) (C.dec hd) ⟨Nat.le_trans hk C.2.2.2.2.2.2.2.2.1.2.2.1, Nat.le_trans hz C.2.2.2.2.2.2.2.2.1.2.2.2⟩) hS ?_
  · show (as.reverse ++ .ref (a' + 1) :: st).map (cv b) = (as.map (cv b)).reverse ++ .ref (b + (a' + 1)) :: st.map (cv b)
    rw [List.map_append, List.map_reverse]; rfl
  · intro v n' S' g' H1 locs1 hv hP1 hS1
    have w := hv p l e R s m args below meth c b D dA Q C hq H1 locs1 ls hls hP1 hS1
    rw [List.map_append] at w
    cases v with
    | none => exact w
    | some x => exact w
end VRows6
def ab (x : Int) : Int := if 0 ≤ x then x else -x
theorem max_i3 {x y : Int} (hx : i3 x) (hy : i3 y) : i3 (max x y) := ⟨by have := hx.1; have := hy.1; omega, by have := hx.2; have := hy.2; omega⟩
theorem min_i3 {x y : Int} (hx : i3 x) (hy : i3 y) : i3 (min x y) := ⟨by have := hx.1; have := hy.1; omega, by have := hx.2; have := hy.2; omega⟩
def LkM (M : MI) (idx : Nat) (y : MethodName) (cc : ByteArray) (ml : Nat) (rt : FieldType) : Prop := Cond.methodLink M.1.2.1 idx y ∈ tbG ∧ Cond.static y ∈ tbG ∧ Cond.initialized "java/lang/Math" ∈ tbG ∧ Cond.code y cc ml (some rt) ∈ tbG
section VRows8
variable {M : MI} {d pc : Nat} {L : List (Nat × Value)} {st : List Value} {n : Nat} {S : Nat → Shp} {g : Hp} {k z : Nat} {P : Pst}
theorem v_mmax {idx : Nat} {x y : Int} (j : Nat) (hd : M.2.2.2[j]? = some (pc, .invokestatic idx, 3)) (hl : LkM M idx Lib.Math.max.name Lib.Math.max.code 2 .int) (hw : wds st = true) (hk : k ≤ M.2.2.1.1) (hz : z ≤ M.2.2.1.2) (hx : i3 x) (hy : i3 y) (h : V M (d + 1) (pc + 3) L (I_ (max x y) :: st) n S g k z P) : V M (d + 1) pc L (I_ y :: I_ x :: st) n S g k z P :=
  v_go h fun p l e R s m args below meth c b D dA Q C H locs ls hls w => va_mmax C.1 C.2.1 (C.2.2.1.trans hls.1.symm) C.2.2.2.1 (C.2.2.2.2.1 _ hl.1) (C.2.2.2.2.1 _ hl.2.1) (C.2.2.2.2.1 _ hl.2.2.1) (C.2.2.2.2.1 _ hl.2.2.2) (by have := C.2.2.2.2.2.2.2.2.1.1; omega) (by have := wds_le (b := b) hw; have := C.2.2.2.2.2.2.2.2.1.2.1; omega) (Nat.le_trans hk C.2.2.2.2.2.2.2.2.1.2.2.1) (Nat.le_trans hz C.2.2.2.2.2.2.2.2.1.2.2.2) (C.dec hd) (by
    have e9 : (if Int32.ofInt x < Int32.ofInt y then Int32.ofInt y else Int32.ofInt x) = Int32.ofInt (max x y) := by
      by_cases q : x < y
      · rw [if_pos ((i3_lt hx hy).mpr q), show max x y = y by omega]
      · rw [if_neg (fun r => q ((i3_lt hx hy).mp r)), show max x y = x by omega]
    rw [e9]; exact w)
theorem v_mmin {idx : Nat} {x y : Int} (j : Nat) (hd : M.2.2.2[j]? = some (pc, .invokestatic idx, 3)) (hl : LkM M idx Lib.Math.min.name Lib.Math.min.code 2 .int) (hw : wds st = true) (hk : k ≤ M.2.2.1.1) (hz : z ≤ M.2.2.1.2) (hx : i3 x) (hy : i3 y) (h : V M (d + 1) (pc + 3) L (I_ (min x y) :: st) n S g k z P) : V M (d + 1) pc L (I_ y :: I_ x :: st) n S g k z P :=
  v_go h fun p l e R s m args below meth c b D dA Q C H locs ls hls w => va_mmin C.1 C.2.1 (C.2.2.1.trans hls.1.symm) C.2.2.2.1 (C.2.2.2.2.1 _ hl.1) (C.2.2.2.2.1 _ hl.2.1) (C.2.2.2.2.1 _ hl.2.2.1) (C.2.2.2.2.1 _ hl.2.2.2) (by have := C.2.2.2.2.2.2.2.2.1.1; omega) (by have := wds_le (b := b) hw; have := C.2.2.2.2.2.2.2.2.1.2.1; omega) (Nat.le_trans hk C.2.2.2.2.2.2.2.2.1.2.2.1) (Nat.le_trans hz C.2.2.2.2.2.2.2.2.1.2.2.2) (C.dec hd) (by
    have e9 : (if Int32.ofInt y < Int32.ofInt x then Int32.ofInt y else Int32.ofInt x) = Int32.ofInt (min x y) := by
      by_cases q : y < x
      · rw [if_pos ((i3_lt hy hx).mpr q), show min x y = y by omega]
      · rw [if_neg (fun r => q ((i3_lt hy hx).mp r)), show min x y = x by omega]
    rw [e9]; exact w)
theorem v_mabs {idx : Nat} {x : Int} (j : Nat) (hd : M.2.2.2[j]? = some (pc, .invokestatic idx, 3)) (hl : LkM M idx Lib.Math.abs.name Lib.Math.abs.code 1 .int) (hw : wds st = true) (hk : k ≤ M.2.2.1.1) (hz : z ≤ M.2.2.1.2) (hx : i3 x) (h : V M (d + 1) (pc + 3) L (I_ (ab x) :: st) n S g k z P) : V M (d + 1) pc L (I_ x :: st) n S g k z P :=
  v_go h fun p l e R s m args below meth c b D dA Q C H locs ls hls w => va_mabs C.1 C.2.1 (C.2.2.1.trans hls.1.symm) C.2.2.2.1 (C.2.2.2.2.1 _ hl.1) (C.2.2.2.2.1 _ hl.2.1) (C.2.2.2.2.1 _ hl.2.2.1) (C.2.2.2.2.1 _ hl.2.2.2) (by have := C.2.2.2.2.2.2.2.2.1.1; omega) (by have := wds_le (b := b) hw; have := C.2.2.2.2.2.2.2.2.1.2.1; omega) (Nat.le_trans hk C.2.2.2.2.2.2.2.2.1.2.2.1) (Nat.le_trans hz C.2.2.2.2.2.2.2.2.1.2.2.2) (C.dec hd) (by
    have e9 : (if 0 ≤ Int32.ofInt x then Int32.ofInt x else 0 - Int32.ofInt x) = Int32.ofInt (ab x) := by
      unfold ab
      by_cases q : 0 ≤ x
      · have q1 : (0 : Int32) ≤ Int32.ofInt x := (i3_le i3_0 hx).mpr q
        rw [if_pos q1, if_pos q]
      · have q1 : ¬ (0 : Int32) ≤ Int32.ofInt x := fun r => q ((i3_le i3_0 hx).mp r)
        rw [if_neg q1, if_neg q, Int32.ofInt_neg, Int32.zero_sub]
    rw [e9]; exact w)
theorem v_mabsl {idx : Nat} {x : Int} (j : Nat) (hd : M.2.2.2[j]? = some (pc, .invokestatic idx, 3)) (hl : LkM M idx Lib.MathLoose.abs_long.x Lib.MathLoose.abs_long.code 2 .long) (hw : wds st = true) (hk : k ≤ M.2.2.1.1) (hz : z ≤ M.2.2.1.2) (hx : i6 x) (h : V M (d + 1) (pc + 3) L (L_ (ab x) :: st) n S g k z P) : V M (d + 1) pc L (L_ x :: st) n S g k z P :=
  v_go h fun p l e R s m args below meth c b D dA Q C H locs ls hls w => va_mabs_long C.1 C.2.1 (C.2.2.1.trans hls.1.symm) C.2.2.2.1 (C.2.2.2.2.1 _ hl.1) (C.2.2.2.2.1 _ hl.2.1) (C.2.2.2.2.1 _ hl.2.2.1) (C.2.2.2.2.1 _ hl.2.2.2) (by have := C.2.2.2.2.2.2.2.2.1.1; omega) (by have := wds_le (b := b) hw; have := C.2.2.2.2.2.2.2.2.1.2.1; omega) (Nat.le_trans hk C.2.2.2.2.2.2.2.2.1.2.2.1) (Nat.le_trans hz C.2.2.2.2.2.2.2.2.1.2.2.2) (C.dec hd) (by
    have e9 : (if 0 < Int64.ofInt x then Int64.ofInt x else -Int64.ofInt x) = Int64.ofInt (ab x) := by
      unfold ab
      by_cases q : 0 < x
      · have q1 : (0 : Int64) < Int64.ofInt x := (i6_lt i6_0 hx).mpr q
        rw [if_pos q1, if_pos (by omega)]
      · have q1 : ¬ (0 : Int64) < Int64.ofInt x := fun r => q ((i6_lt i6_0 hx).mp r)
        rw [if_neg q1]
        by_cases q0 : x = 0
        · subst q0; rfl
        · rw [if_neg (by omega), Int64.ofInt_neg]
    rw [e9]; exact w)
end VRows8
section VRows9
variable {M : MI} {d pc : Nat} {L : List (Nat × Value)} {st : List Value} {n : Nat} {S : Nat → Shp} {g : Hp} {k z : Nat} {P : Pst}
theorem v_nmI {x : Int} (h : ∀ y : Int, y = x → V M d pc L (I_ y :: st) n S g k z P) : V M d pc L (I_ x :: st) n S g k z P := h x rfl
theorem v_nmL {x : Int} (h : ∀ y : Int, y = x → V M d pc L (L_ y :: st) n S g k z P) : V M d pc L (L_ x :: st) n S g k z P := h x rfl
end VRows9
