/-! ROWS THAT MAKE CELLS -/
theorem upr_ne {g : Hp} {i j q : Nat} {r : Nat → Int} (h : j ≠ i) : upr g i r j q = g j q := if_neg h
theorem upr_s {g : Hp} {i q : Nat} {r : Nat → Int} : upr g i r i q = r q := if_pos rfl
/-- the picture with one cell more -/
theorem Pic.grow {D : va_G} {dA : Nat → ClassId} {b n : Nat} {S S' : Nat → Shp} {g : Hp} {H H' : Heap} (h : Pic D dA b n S g H) (hn0 : 0 < n) (hS : ∀ i, i < n → S' i = S i) (hz : H'.size = b + n + 1) (hk : ∀ q, q < b + n → H'[q]? = H[q]?) (hc : cel D dA b S' (upr g n (fun _ => 0)) n H') : Pic D dA b (n + 1) S' (upr g n (fun _ => 0)) H' := by
  refine ⟨by rw [hz]; omega, fun i h0 h1 => ?_, fun i q h0 h1 => ?_, ?_⟩
  · by_cases e : i = n
    · subst e; exact hc
    · have hi : i < n := by omega
      have hu : ∀ q, upr g n (fun _ => 0) i q = g i q := fun q => upr_ne e
      have hgv : ∀ q, gv S' (upr g n (fun _ => 0)) i q = gv S g i q := fun q => by unfold gv; rw [hu q, hS i hi]
      unfold cel
      rw [hS i hi]
      rcases h.2.1 i h0 hi with r | r
      · refine Or.inl ⟨r.1, (r.2.kept (hk (b + i) (by omega))).to (fun q _ => by rw [hgv q])⟩
      · refine Or.inr ⟨r.1, fun r9 => ?_⟩
        rw [hk (b + i) (by omega), r.2 r9]
        simp only [hu]
  · by_cases e : i = n
    · subst e
      rw [upr_s]
      unfold rg
      split
      · decide
      · decide
      · exact Int.le_refl 0
    · rw [upr_ne e, hS i (by omega)]
      exact h.2.2.1 i q h0 (by omega)
  · obtain ⟨s1, s2, s3, s4⟩ := h.2.2.2
    unfold Scr
    simp only [upr_ne (i := n) (j := 0) (Nat.ne_of_lt hn0)]
    exact ⟨s1, by rw [hk _ (by omega)]; exact s2, s3, s4⟩
def FWF (own : String) (idx kf : Nat) (ty : FieldType) : Prop := FL own idx 3 kf true ty ∧ FL own idx 5 kf true ty ∧ FL own idx 9 kf true ty
/-- a nest mate's constructor -/
def LkIN (M M' : MI) (idx na : Nat) : Prop := (Cond.code M'.1.1 M'.1.2.2 M'.2.1.1 M'.2.1.2 ∈ tbG ∧ Cond.initialized M'.1.1.cls ∈ tbG ∧ (M.1.2.1, idx, M'.1.1) ∈ nestl) ∧ (M'.1.1.cls ≠ "java/lang/invoke/MethodHandle" ∧ M'.1.1.cls ≠ "java/lang/invoke/VarHandle" ∧ (parseMethodDescriptor M'.1.1.desc).map (fun d => d.parameters.length) = some na) ∧ M'.2.1.1 ≤ 40 ∧ M'.1.1.name = "<init>" ∧ Cond.instanceMethod M'.1.1 ∈ tbG
def NW (own : String) (idx ci : Nat) : Prop := ∃ (C : String) (T : u_T) (N : Nat) (ty : Nat → FieldType), vwCl[ci]? = some (C, T, N) ∧ nf ci = N ∧ (∀ w ∈ u_ws C T N, w ∈ tbG) ∧ (∀ k, k < N → parseFieldDescriptor (T k).2.2.1 = some (ty k)) ∧ Cond.classLink own idx C ∈ tbG ∧ Cond.instantiable C N ∈ tbG ∧ Cond.initialized C ∈ tbG ∧ ∀ k, k < N → (fc ci k < 2 ∧ defaultValue (ty k) = vA (fc ci k) 0) ∨ (defaultValue (ty k) = .null ∧ fc ci k = 2)
section VRows7
variable {M : MI} {d pc : Nat} {L L' : List (Nat × Value)} {st : List Value} {n : Nat} {S S' : Nat → Shp} {g : Hp} {k z : Nat} {P : Pst}
set_option maxHeartbeats 1000000 in
theorem v_new {idx ci : Nat} (j : Nat) (hd : M.2.2.2[j]? = some (pc, .new idx, 3)) (hw : NW M.1.2.1 idx ci) (hci : ci < 12) (h0 : 0 < n) (hS' : ∀ i, i < n → S' i = S i) (hn : S' n = (ci, 0, fun _ => none)) (hk : k + 1 ≤ M.2.2.1.1) (hz : z + nf ci ≤ M.2.2.1.2)
    (h : V M d (pc + 3) L (.ref n :: st) (n + 1) S' (upr g n (fun _ => 0)) (k + 1) (z + nf ci) P) : V M d pc L st n S g k z P := by
  intro p l e R s m args below meth c b D dA Q C hq H locs ls hl hP hS
  obtain ⟨Cn, T, N, ty, h1, h2, h3, h4, h5, h6, h7, h8⟩ := hw
  rw [h2] at hz h
  have hKn := C.2.2.2.2.2.1.1.1 ci _ h1
  refine W.newcK C.1 C.2.1 C.2.2.2.1 (C.2.2.2.2.1 _ h5) (C.2.2.2.2.1 _ h6) (C.2.2.2.2.1 _ h7) rfl (C.dec hd) (Nat.le_trans hk C.2.2.2.2.2.2.2.2.1.2.2.1) (Nat.le_trans hz C.2.2.2.2.2.2.2.2.1.2.2.2) hKn.2.1 (h := b + n) hP.1 fun H1 kC hkC e1 z1 o1 => ?_
  obtain ⟨n', rfl⟩ : ∃ n', n = n' + 1 := ⟨n - 1, by omega⟩
  have hborn := u_born ty C.2.2.2.2.1 h3 hKn hkC e1 h4
  refine h p l e R s m args below meth c b D dA Q C hq H1 locs ls hl (hP.grow (by omega) hS' (by rw [z1]) o1 (Or.inl ?_)) ⟨Nat.le_trans hS.1 (by rw [z1, hP.1]; omega), fun x g1 g2 => (o1 x (by have := hS.1; rw [hP.1] at this; omega)).trans (hS.2.1 x g1 g2), hS.2.2⟩
  rw [hn]
  refine ⟨hci, ?_⟩
  rw [h2]
  refine hborn.to (fun q hq => ?_)
  have e9 : gv S' (upr g (n' + 1) (fun _ => 0)) (n' + 1) q = 0 := by unfold gv; rw [hn]; exact upr_s
  rw [e9]
  show defaultValue (ty q) = cv b (vA (fc ci q) 0)
  rcases h8 q hq with r | r
  · rw [r.2]
    have e8 : fc ci q = 0 ∨ fc ci q = 1 := by omega
    rcases e8 with e8 | e8
    · rw [e8]; rfl
    · rw [e8]; rfl
  · rw [r.1, r.2]; rfl
set_option maxHeartbeats 1000000 in
theorem v_newa {atype : ArrayType} {t N : Nat} {ty : FieldType} (j : Nat) (hd : M.2.2.2[j]? = some (pc, .newarray atype, 2)) (hty : newarray.typeOf atype = ty) (ht : 12 ≤ t ∧ t < 20) (hat : ∀ dA : Nat → ClassId, (aty dA)[t - 12]? = some (dA t, ty)) (hra : ∀ (U : State) (cA : ClassId), va_RA U cA ty → U.vm.findClass ("[" ++ ty.toString) = some cA) (hac : Cond.arrayClass ty ∈ tbG) (hdf : ∀ b q, defaultValue ty = cv b (vA (fc t q) 0)) (hby : N * componentBytes ty ≤ 536870912) (hN : N ≤ 100000) (h0 : 0 < n) (hS' : ∀ i, i < n → S' i = S i) (hn : S' n = (t, N, fun _ => none)) (hk : k + 1 ≤ M.2.2.1.1) (hz : z + N ≤ M.2.2.1.2)
    (h : V M d (pc + 2) L (.ref n :: st) (n + 1) S' (upr g n (fun _ => 0)) (k + 1) (z + N) P) : V M d pc L (I_ (N : Int) :: st) n S g k z P := by
  intro p l e R s m args below meth c b D dA Q C hq H locs ls hl hP hS
  subst hty
  have eN : Int32.ofInt (N : Int) = nI N := Int32.ofInt_eq_ofNat
  obtain ⟨n', rfl⟩ : ∃ n', n = n' + 1 := ⟨n - 1, by omega⟩
  refine va_newaK C.1 C.2.1 (C.2.2.2.2.1 _ hac) rfl (C.dec hd) (n := Int32.ofInt (N : Int)) (N := N) rfl (by rw [eN]; exact nI_pos (by omega)) (by rw [eN]; exact nI_clamp (by omega)) hby (Nat.le_trans hk C.2.2.2.2.2.2.2.2.1.2.2.1) (Nat.le_trans hz C.2.2.2.2.2.2.2.2.1.2.2.2) (h := b + (n' + 1)) hP.1 fun H1 cA e1 z1 o1 hAr hNm => ?_
  have hc : cA = dA t := by
    have := hra s (dA t) (C.2.2.2.2.2.1.1.2 (t - 12) _ (hat dA)).2
    exact Option.some.inj (hNm.symm.trans this)
  refine h p l e R s m args below meth c b D dA Q C hq H1 locs ls hl (hP.grow (by omega) hS' (by rw [z1]) o1 (Or.inr ?_)) ⟨Nat.le_trans hS.1 (by rw [z1, hP.1]; omega), fun x g1 g2 => (o1 x (by have := hS.1; rw [hP.1] at this; omega)).trans (hS.2.1 x g1 g2), hS.2.2⟩
  rw [hn]
  refine ⟨ht.1, fun _ => ?_⟩
  rw [e1, hc]
  refine congrArg some (congrArg (arrV (dA t) N) (funext fun q => ?_))
  rw [upr_s]; exact hdf b q
set_option maxHeartbeats 1000000 in
theorem v_anew {idx t N : Nat} {E : String} (j : Nat) (hd : M.2.2.2[j]? = some (pc, .anewarray idx, 3)) (hl : Cond.classLink M.1.2.1 idx E ∈ tbG) (hao : ∀ U, KX U → va_AO E U) (ht : 12 ≤ t ∧ t < 20) (hat : ∀ dA : Nat → ClassId, (aty dA)[t - 12]? = some (dA t, .object E)) (hfc : ∀ q, fc t q = 2) (hN : N ≤ 100000) (h0 : 0 < n) (hS' : ∀ i, i < n → S' i = S i) (hn : S' n = (t, N, fun _ => none)) (hk : k + 1 ≤ M.2.2.1.1) (hz : z + N ≤ M.2.2.1.2)
    (h : V M d (pc + 3) L (.ref n :: st) (n + 1) S' (upr g n (fun _ => 0)) (k + 1) (z + N) P) : V M d pc L (I_ (N : Int) :: st) n S g k z P := by
  intro p l e R s m args below meth c b D dA Q C hq H locs ls hls hP hS
  have eN : Int32.ofInt (N : Int) = nI N := Int32.ofInt_eq_ofNat
  have eC : (Int32.ofInt (N : Int)).toNatClampNeg = N := by rw [eN]; exact nI_clamp (by omega)
  obtain ⟨n', rfl⟩ : ∃ n', n = n' + 1 := ⟨n - 1, by omega⟩
  refine W.anew C.1 C.2.1 C.2.2.2.1 (C.2.2.2.2.1 _ hl) (va_AO.use (hao s C.2.2.2.2.2.1.2.2.2.2)) rfl (C.dec hd) (n := Int32.ofInt (N : Int)) rfl (by rw [eN]; exact nI_pos (by omega)) (by rw [eC]; omega) (Nat.le_trans hk C.2.2.2.2.2.2.2.2.1.2.2.1) (by rw [eC]; exact Nat.le_trans hz C.2.2.2.2.2.2.2.2.1.2.2.2) fun cA kA comp f1 f2 f3 f4 => ?_
  rw [eC]
  obtain ⟨kA', comp', g1, g2, g3, g4⟩ := (C.2.2.2.2.2.1.1.2 (t - 12) _ (hat dA)).2
  have hc : cA = dA t := Option.some.inj (f1.symm.trans g4)
  rw [arrV_new, hc]
  have hsz : H.size = b + (n' + 1) := hP.1
  have w := h p l e R s m args below meth c b D dA Q C hq (H.push (arrV (dA t) N (fun _ => .null))) locs ls hls (hP.grow (by omega) hS' (by rw [Array.size_push, hsz]) (fun q hq => by rw [Array.getElem?_push]; rw [if_neg (by omega)]) (Or.inr ?_)) ⟨Nat.le_trans hS.1 (by rw [Array.size_push]; omega), fun x g1 g2 => by rw [Array.getElem?_push, if_neg (by have := hS.1; omega)]; exact hS.2.1 x g1 g2, hS.2.2⟩
  · rw [hsz]; exact w
  · rw [hn]
    refine ⟨ht.1, fun _ => ?_⟩
    rw [Array.getElem?_push, if_pos hsz.symm]
    refine congrArg some (congrArg (arrV (dA t) N) (funext fun q => ?_))
    rw [upr_s, hfc q]; rfl
theorem v_qFI {a kf idx : Nat} {x : Int} (j : Nat) (hd : M.2.2.2[j]? = some (pc, .putfield idx, 3)) (hf : FWF M.1.2.1 idx kf .int) (ha : Pt n S a) (ht : fc 3 kf = 0 ∧ fc 5 kf = 0 ∧ fc 9 kf = 0) (hin : M.1.1.name = "<init>") (hx : i3 x) (h : V M d (pc + 3) L st n S (up2 g a kf x) k z P) : V M d pc L (I_ x :: .ref a :: st) n S g k z P := by
  rcases ha.2.1 with q | q | q
  · exact v_putFI j hd hf.1 ha.1 q (by decide) ht.1 (ha.2.2 kf) hin hx h
  · exact v_putFI j hd hf.2.1 ha.1 q (by decide) ht.2.1 (ha.2.2 kf) hin hx h
  · exact v_putFI j hd hf.2.2 ha.1 q (by decide) ht.2.2 (ha.2.2 kf) hin hx h
theorem v_callIN {M' : MI} {idx a : Nat} (as : List Value) (j : Nat) (hd : M.2.2.2[j]? = some (pc, .invokespecial idx, 3)) (hl : LkIN M M' idx as.length) (hret : M'.2.1.2 = none) (ha : 0 < a ∧ a < n) (hw : wds st = true) (hk : k + M'.2.2.1.1 ≤ M.2.2.1.1) (hz : z + M'.2.2.1.2 ≤ M.2.2.1.2)
    (hr : Runs M' d (.ref a :: as) n S g (fun v n' S' g' => V M (d + 1) (pc + 3) L (v.toList ++ st) n' S' g' (k + M'.2.2.1.1) (z + M'.2.2.1.2) P)) : V M (d + 1) pc L (as.reverse ++ .ref a :: st) n S g k z P := by
  intro p l e R s m args below meth c b D dA Q C hq H locs ls hls hP hS
  obtain ⟨a', rfl⟩ : ∃ a', a = a' + 1 := ⟨a - 1, by omega⟩
  obtain ⟨⟨l1, l2, l3⟩, l4, l5, l6, l7⟩ := hl
  have cw : va_CN R s args M.1.2.1 idx M'.1.1 "MobileMaker" M'.1.2.2 M'.2.1.1 M'.2.1.2 (wsM M') (rmM M' d) M'.2.2.1.1 M'.2.2.1.2 as.length :=
    va_cnB as.length C.2.2.2.2.1 (wsM_good M' l1) rfl rfl rfl (C.2.2.2.2.2.1.2.2.2.2.2.1 _ l3) (C.2.2.2.2.1 _ l2) l4 ⟨C.2.2.2.2.2.2.2.2.1.1, by have h1 := C.2.2.2.2.2.2.2.2.1.2.1; show 8 + (M'.2.1.1 + 11) + 64 * d ≤ R.locals; omega⟩
  rw [hret] at cw
  refine w_run (rest := st.map (cv b)) (va_runIN (As := as.map (cv b)) (b := b + (a' + 1)) ⟨C.1, C.2.1, C.2.2.1, C.2.2.2.1, C.2.2.2.2.1⟩ (hr l b D dA) ⟨cw, l6, C.2.2.2.2.1 _ l7⟩ ⟨PcM_blind b D dA _ n S g, fun U hU hW => PcM_at hP C.2.2.2.2.2.1 (by omega) hU hW C.2.2.2.2.2.2.1 hS⟩ rfl (List.length_map _) hls.1 ?_ (by show 2 * 0 + _ ≤ 8; rw [Nat.mul_zero, Nat.zero_add]; exact wds_le hw) (C.dec hd) ⟨Nat.le_trans hk C.2.2.2.2.2.2.2.2.1.2.2.1, Nat.le_trans hz C.2.2.2.2.2.2.2.2.1.2.2.2⟩) hS ?_
  · show (as.reverse ++ .ref (a' + 1) :: st).map (cv b) = (as.map (cv b)).reverse ++ .ref (b + (a' + 1)) :: st.map (cv b)
    rw [List.map_append, List.map_reverse]; rfl
  · intro v n' S' g' H1 locs1 hv hP1 hS1
    have w := hv p l e R s m args below meth c b D dA Q C hq H1 locs1 ls hls hP1 hS1
    rw [List.map_append] at w
    cases v with
    | none => exact w
    | some x => exact w
end VRows7
