/-! NEW int[N][K] (vr_outer: starting text) -/
theorem vr_outer (c : ClassId) (N h0 : Nat) : ∀ i : Nat, Jvm.Free.Multi.outerC c N h0 i = arrV c N (fun j => va_rf (if j < i then some (h0 + 1 + j) else none))
  | 0 => by
    show ({ cls := c, slots := Array.replicate N .null, vm := .none } : Cell) = _
    rw [arrV_new]
    refine congrArg (arrV c N) (funext fun j => ?_)
    simp [va_rf]
  | i + 1 => by
    show (Jvm.Free.Multi.outerC c N h0 i).setSlot i (.ref (h0 + 1 + i)) = _
    rw [vr_outer c N h0 i, arrV_store]
    refine congrArg (arrV c N) (funext fun j => ?_)
    by_cases e : j = i
    · subst e
      simp [updV, va_rf]
    · by_cases h : j < i
      · simp [updV, e, h, Nat.lt_succ_of_lt h]
      · simp [updV, e, h, show ¬ j < i + 1 by omega]
/-- the cells of a new int[N][..], its outer one being n -/
def gM (g : Hp) (n N : Nat) : Hp := fun i q => if i = n then (if q < N then ((n + 1 + q : Nat) : Int) else 0) else if n < i then 0 else g i q
section Multi
variable {M : MI} {d pc k z n : Nat} {L : List (Nat × Value)} {st : List Value} {S S' : Nat → Shp} {g : Hp} {P : Pst}
set_option maxHeartbeats 1000000 in
theorem v_mna {idx N K : Nat} (j : Nat) (hd : M.2.2.2[j]? = some (pc, .multianewarray idx 2, 4)) (hl : Cond.classLink M.1.2.1 idx ("[" ++ (FieldType.array .int).toString) ∈ tbG) (hac : Cond.arrayClass .int ∈ tbG) (hr19 : ∀ (U : State) (cA : ClassId), va_RA U cA (.array .int) → U.vm.findClass ("[" ++ (FieldType.array .int).toString) = some cA) (hr13 : ∀ (U : State) (cA : ClassId), va_RA U cA .int → U.vm.findClass (FieldType.array .int).toString = some cA)
    (hN : N ≤ 1000) (hK : K ≤ 1000) (h0 : 0 < n) (hS' : ∀ i, i < n → S' i = S i) (hn : S' n = (19, N, fun _ => none)) (hn' : ∀ i, i < N → S' (n + 1 + i) = (13, K, fun _ => none)) (hk : k + (1 + N) ≤ M.2.2.1.1) (hz : z + (N + N * K) ≤ M.2.2.1.2)
    (h : V M d (pc + 4) L (.ref n :: st) (n + 1 + N) S' (gM g n N) (k + 1 + N) (z + N + N * K) P) : V M d pc L (I_ (K : Int) :: I_ (N : Int) :: st) n S g k z P := by
  intro p l e R s m args below meth c b D dA Q C hq H locs ls hls hP hS
  have eN : Int32.ofInt (N : Int) = nI N := Int32.ofInt_eq_ofNat
  have eK : Int32.ofInt (K : Int) = nI K := Int32.ofInt_eq_ofNat
  obtain ⟨n', rfl⟩ : ∃ n', n = n' + 1 := ⟨n - 1, by omega⟩
  have cN : (Int32.ofInt (N : Int)).toNatClampNeg = N := by rw [eN]; exact nI_clamp (by omega)
  have cK : (Int32.ofInt (K : Int)).toNatClampNeg = K := by rw [eK]; exact nI_clamp (by omega)
  have hover : (Cond.arrayOver (.array .int)).before args s = true := by
    have h9 : va_AI s := C.2.2.2.2.2.1.2.2.2.2.2.2.2.2.2
    unfold va_AI at h9
    simp only [Cond.before, Cond.holds, Cond.value] at h9 ⊢
    exact h9
  intro T hT X
  obtain ⟨vm₁, cA, comp, -, fA, fC, -, -, X', step⟩ := X.multianewarray2F C.1 C.2.2.2.1 (C.2.2.2.2.1 _ hl) hover (C.2.2.2.2.1 _ hac) (g := F0 m pc ls (.int (Int32.ofInt (K : Int)) :: .int (Int32.ofInt (N : Int)) :: st.map (cv b))) rfl (by rw [C.2.1]; exact C.dec hd) rfl (by rw [eN]; exact nI_pos (by omega)) (by rw [eK]; exact nI_pos (by omega)) (by rw [cN]; omega) (by rw [cK]; show K * 4 ≤ _; omega) (by rw [cK]; omega) rfl rfl (by rw [cN]; exact Nat.le_trans hk C.2.2.2.2.2.2.2.2.1.2.2.1) (by rw [cN, cK]; exact Nat.le_trans hz C.2.2.2.2.2.2.2.2.1.2.2.2)
  rw [cN, cK] at X' step
  have d19 : cA = dA 19 := Option.some.inj (fA.symm.trans (hr19 s (dA 19) (C.2.2.2.2.2.1.1.2 7 _ rfl).2))
  have d13 : comp = dA 13 := Option.some.inj (fC.symm.trans (hr13 s (dA 13) (C.2.2.2.2.2.1.1.2 1 _ rfl).2))
  subst d19
  subst d13
  have hTh : (T.setVm vm₁).heap = H := hT
  obtain ⟨f1, f2, -, -⟩ := Jvm.Free.Multi.fill_facts (T.setVm vm₁) (dA 19) (dA 13) N K (defaultValue .int) N
  have fo : ∀ a : Nat, a < H.size → (Jvm.Free.Multi.fill (T.setVm vm₁) (dA 19) (dA 13) N K (defaultValue .int) N).heap[a]? = H[a]? := fun a ha => by
    have := Jvm.Free.Multi.fill_old (T.setVm vm₁) (dA 19) (dA 13) N K (defaultValue .int) (a := a) (by rw [hTh]; exact ha) N
    rw [hTh] at this; exact this
  have fi : ∀ i : Nat, i < N → (Jvm.Free.Multi.fill (T.setVm vm₁) (dA 19) (dA 13) N K (defaultValue .int) N).heap[H.size + 1 + i]? = some (Jvm.Free.Multi.innerC (dA 13) K (defaultValue .int)) := fun i hi => by
    have := Jvm.Free.Multi.fill_inner (T.setVm vm₁) (dA 19) (dA 13) N K (defaultValue .int) N i hi
    rw [hTh] at this; exact this
  rw [hTh] at f1 f2
  generalize Jvm.Free.Multi.fill (T.setVm vm₁) (dA 19) (dA 13) N K (defaultValue .int) N = F at *
  rw [hP.1] at f1 f2 fi
  obtain ⟨p1, p2, p3, p4⟩ := hP
  have hPic : Pic D dA b (n' + 1 + 1 + N) S' (gM g (n' + 1) N) F.heap := by
    refine ⟨by rw [f1]; omega, fun i h1 h2 => ?_, fun i q h1 h2 => ?_, ?_⟩
    · rcases Nat.lt_trichotomy i (n' + 1) with c1 | c1 | c1
      · have := p2 i h1 c1
        have eg : gM g (n' + 1) N i = g i := funext fun q => by unfold gM; rw [if_neg (by omega), if_neg (by omega)]
        have egv : ∀ q, gv S' (gM g (n' + 1) N) i q = gv S g i q := fun q => by unfold gv; rw [hS' i c1, eg]
        unfold cel at this ⊢
        rw [hS' i c1]
        simp only [egv, eg]
        rcases this with ⟨t1, t2⟩ | ⟨t1, t2⟩
        · refine Or.inl ⟨t1, ?_⟩
          unfold t_OB at t2 ⊢
          rw [fo _ (by omega)]; exact t2
        · exact Or.inr ⟨t1, fun t3 => by rw [fo _ (by omega)]; exact t2 t3⟩
      · subst c1
        unfold cel
        rw [hn]
        refine Or.inr ⟨(by decide : 12 ≤ 19), fun _ => ?_⟩
        rw [f2, vr_outer]
        refine congrArg some (congrArg (arrV (dA 19) N) (funext fun q => ?_))
        show va_rf _ = cv b (.ref (gM g (n' + 1) N (n' + 1) q).toNat)
        unfold gM
        rw [if_pos rfl]
        by_cases c2 : q < N
        · rw [if_pos c2, if_pos c2]
          show Value.ref (b + (n' + 1) + 1 + q) = cv b (.ref (n' + 1 + 1 + q))
          rw [show n' + 1 + 1 + q = (n' + 1 + q) + 1 by omega, show b + (n' + 1) + 1 + q = b + ((n' + 1 + q) + 1) by omega]
          rfl
        · rw [if_neg c2, if_neg c2]; rfl
      · unfold cel
        obtain ⟨r, rfl⟩ : ∃ r, i = n' + 1 + 1 + r := ⟨i - (n' + 1 + 1), by omega⟩
        rw [hn' r (by omega)]
        refine Or.inr ⟨(by decide : 12 ≤ 13), fun _ => ?_⟩
        rw [show b + (n' + 1 + 1 + r) = b + (n' + 1) + 1 + r by omega, fi r (by omega)]
        show some ({ cls := dA 13, slots := Array.replicate K (defaultValue .int), vm := .none } : Cell) = _
        rw [arrV_new]
        refine congrArg some (congrArg (arrV (dA 13) K) (funext fun q => ?_))
        show defaultValue .int = cv b (I_ (gM g (n' + 1) N (n' + 1 + 1 + r) q))
        unfold gM
        rw [if_neg (by omega), if_pos (by omega)]; rfl
    · rcases Nat.lt_trichotomy i (n' + 1) with c1 | c1 | c1
      · rw [hS' i c1, show gM g (n' + 1) N i q = g i q by unfold gM; rw [if_neg (by omega), if_neg (by omega)]]
        exact p3 i q h1 c1
      · subst c1
        rw [hn]
        show (0 : Int) ≤ gM g (n' + 1) N (n' + 1) q
        unfold gM
        rw [if_pos rfl]
        split <;> omega
      · obtain ⟨r, rfl⟩ : ∃ r, i = n' + 1 + 1 + r := ⟨i - (n' + 1 + 1), by omega⟩
        rw [hn' r (by omega), show gM g (n' + 1) N (n' + 1 + 1 + r) q = 0 by unfold gM; rw [if_neg (by omega), if_pos (by omega)]]
        show i3 0
        decide
    · have e0 : gM g (n' + 1) N 0 = g 0 := funext fun q => by unfold gM; rw [if_neg (by omega), if_neg (by omega)]
      unfold Scr at p4 ⊢
      rw [e0]
      obtain ⟨s1, s2, s3, s4⟩ := p4
      exact ⟨s1, by rw [fo _ (by omega)]; exact s2, s3, s4⟩
  have hS1 : va_S (AA b) s.heap F.heap locs := ⟨Nat.le_trans hS.1 (by rw [f1]; omega), fun q q1 q2 => (fo q (Nat.lt_of_lt_of_le q1 hS.1)).trans (hS.2.1 q q1 q2), hS.2.2⟩
  obtain ⟨t2, a1, b1⟩ := h p l e R s m args below meth c b D dA Q C hq F.heap locs ls hls hPic hS1 F rfl X'
  refine ⟨t2, step t2 ?_, b1⟩
  rw [show T.heap.size = b + (n' + 1) by rw [hT]; exact p1]
  exact a1
end Multi
