/-! ROWS OF THE HEAP -/
theorem Pic.obj {D : va_G} {dA : Nat → ClassId} {b n : Nat} {S : Nat → Shp} {g : Hp} {H : Heap} (h : Pic D dA b n S g H) {a ci : Nat} (ha : 0 < a ∧ a < n) (hs : (S a).1 = ci) (hc : ci < 12) : t_OB (b + a) (D.1 ci) (nf ci) (D.2 ci) H (fun k => cv b (vA (fc ci k) (gv S g a k))) := by
  rcases h.2.1 a ha.1 ha.2 with q | q
  · rw [hs] at q; exact q.2
  · exact absurd q.1 (by omega)
theorem Pic.arr {D : va_G} {dA : Nat → ClassId} {b n : Nat} {S : Nat → Shp} {g : Hp} {H : Heap} (h : Pic D dA b n S g H) {a t : Nat} (ha : 0 < a ∧ a < n) (hs : (S a).1 = t) (hc : 12 ≤ t ∧ t < 20) : H[b + a]? = some (arrV (dA t) (S a).2.1 (fun j => cv b (vA (fc t j) (g a j)))) := by
  rcases h.2.1 a ha.1 ha.2 with q | q
  · exact absurd q.1 (by omega)
  · rw [hs] at q; exact q.2 hc.2
/-- what a cell is, where another one has changed -/
theorem Pic.set {D : va_G} {dA : Nat → ClassId} {b n : Nat} {S : Nat → Shp} {g : Hp} {H H' : Heap} (h : Pic D dA b n S g H) {a kf : Nat} {x : Int} (ha : 0 < a ∧ a < n) (hz : H'.size = H.size) (hk : ∀ q, q ≠ b + a → H'[q]? = H[q]?) (hc : cel D dA b S (up2 g a kf x) a H') (hr : rg (fc (S a).1 kf) x) : Pic D dA b n S (up2 g a kf x) H' := by
  refine ⟨hz.trans h.1, fun i h0 h1 => ?_, fun i k h0 h1 => ?_, ?_⟩
  · by_cases e : i = a
    · subst e; exact hc
    · have hu : ∀ k, up2 g a kf x i k = g i k := fun k => if_neg (fun q => e q.1)
      have hgv : ∀ k, gv S (up2 g a kf x) i k = gv S g i k := fun k => by unfold gv; rw [hu k]
      rcases h.2.1 i h0 h1 with q | q
      · refine Or.inl ⟨q.1, (q.2.kept (hk (b + i) (by omega))).to (fun k _ => by rw [hgv k])⟩
      · refine Or.inr ⟨q.1, fun r => ?_⟩
        rw [hk (b + i) (by omega), q.2 r]
        simp only [hu]
  · unfold up2
    by_cases e : i = a ∧ k = kf
    · rw [if_pos e, e.1, e.2]; exact hr
    · rw [if_neg e]; exact h.2.2.1 i k h0 h1
  · have hu : ∀ k, up2 g a kf x 0 k = g 0 k := fun k => if_neg (fun q => by omega)
    obtain ⟨s1, s2, s3, s4⟩ := h.2.2.2
    unfold Scr
    simp only [hu]
    exact ⟨s1, by rw [hk _ (by omega)]; exact s2, s3, s4⟩
/-- where a field is found, and what the tables say of it -/
def FL (own : String) (idx ci kf : Nat) (fin : Bool) (ty : FieldType) : Prop := ∃ (C : String) (T : u_T) (N : Nat) (ref : String), vwCl[ci]? = some (C, T, N) ∧ nf ci = N ∧ kf < N ∧ (∀ w ∈ u_ws C T N, w ∈ tbG) ∧ Cond.fieldLink own idx ref (T kf).2.1 (T kf).2.2.1 ∈ tbG ∧ ((T kf).1 = ref ∨ Cond.sameField ref (T kf).1 (T kf).2.1 (T kf).2.2.1 ∈ tbG) ∧ (T kf).2.2.2 = fin ∧ parseFieldDescriptor (T kf).2.2.1 = some ty ∧ (∃ ty0 : Nat → FieldType, ∀ k, k < N → parseFieldDescriptor (T k).2.2.1 = some (ty0 k)) ∧ (∀ a, a < N → ∀ b, b < N → a ≠ b → (T a).2.1 ≠ (T b).2.1) ∧ (fin = true → (T kf).1 = own)
section VRows3
variable {M : MI} {d pc : Nat} {L L' : List (Nat × Value)} {st : List Value} {n : Nat} {S : Nat → Shp} {g : Hp} {k z : Nat} {P : Pst}
theorem v_get0 {a ci kf idx : Nat} {fin : Bool} {ty : FieldType} (j : Nat) (hd : M.2.2.2[j]? = some (pc, .getfield idx, 3)) (hf : FL M.1.2.1 idx ci kf fin ty) (ha : 0 < a ∧ a < n) (hs : (S a).1 = ci) (hc : ci < 12) (h : V M d (pc + 3) L (vA (fc ci kf) (gv S g a kf) :: st) n S g k z P) : V M d pc L (.ref a :: st) n S g k z P := by
  intro p l e R s m args below meth c b D dA Q C hq H locs ls hl hP hS
  have w := h p l e R s m args below meth c b D dA Q C hq H locs ls hl hP hS
  obtain ⟨Cn, T, N, ref, h1, h2, h3, h4, h5, h6, h7, h8, h9, h10, h11⟩ := hf
  obtain ⟨cell, q1, q2, q3, q4⟩ := hP.obj ha hs hc
  obtain ⟨hSl, hfc, kC, hkC, hkind⟩ := C.2.2.2.2.2.1.1.1 ci _ h1
  obtain ⟨cf, kf', fi, f, hi, hsl⟩ := hSl kf h3
  have hsame : s.fieldFound? ref (T kf).2.1 (T kf).2.2.1 = some (cf, kf', fi, f) := by
    rcases h6 with e | e
    · rw [← e]; exact hi
    · exact u_same (C.2.2.2.2.1 _ e) _ hi
  obtain ⟨a', rfl⟩ : ∃ a', a = a' + 1 := ⟨a - 1, by omega⟩
  refine W.getf C.1 C.2.1 C.2.2.2.1 (C.2.2.2.2.1 _ h5) hsame (u_facts hfc hkC (u_lays C.2.2.2.2.1 h4 h3) hi).1 q1 (by rw [q3]; exact fun h => by cases h) (v := cv b (vA (fc ci kf) (gv S g (a' + 1) kf))) ?_ rfl rfl (C.dec hd) w
  rw [hsl, q4 kf (by rw [h2]; exact h3)]
theorem v_getI {a ci kf idx : Nat} {fin : Bool} {ty : FieldType} (j : Nat) (hd : M.2.2.2[j]? = some (pc, .getfield idx, 3)) (hf : FL M.1.2.1 idx ci kf fin ty) (ha : 0 < a ∧ a < n) (hs : (S a).1 = ci) (hc : ci < 12) (ht : fc ci kf = 0) (hk : (S a).2.2 kf = none) (h : V M d (pc + 3) L (I_ (g a kf) :: st) n S g k z P) : V M d pc L (.ref a :: st) n S g k z P :=
  v_get0 j hd hf ha hs hc (by unfold gv; rw [ht, hk]; exact h)
theorem v_getL {a ci kf idx : Nat} {fin : Bool} {ty : FieldType} (j : Nat) (hd : M.2.2.2[j]? = some (pc, .getfield idx, 3)) (hf : FL M.1.2.1 idx ci kf fin ty) (ha : 0 < a ∧ a < n) (hs : (S a).1 = ci) (hc : ci < 12) (ht : fc ci kf = 1) (hk : (S a).2.2 kf = none) (h : V M d (pc + 3) L (L_ (g a kf) :: st) n S g k z P) : V M d pc L (.ref a :: st) n S g k z P :=
  v_get0 j hd hf ha hs hc (by unfold gv; rw [ht, hk]; exact h)
theorem v_getR {a ci kf idx : Nat} {fin : Bool} {ty : FieldType} (j : Nat) (hd : M.2.2.2[j]? = some (pc, .getfield idx, 3)) (hf : FL M.1.2.1 idx ci kf fin ty) (ha : 0 < a ∧ a < n) (hs : (S a).1 = ci) (hc : ci < 12) (ht : fc ci kf = 2) (hk : (S a).2.2 kf = none) (h : V M d (pc + 3) L (.ref (g a kf).toNat :: st) n S g k z P) : V M d pc L (.ref a :: st) n S g k z P :=
  v_get0 j hd hf ha hs hc (by unfold gv; rw [ht, hk]; exact h)
theorem v_getK {a ci kf idx r : Nat} {fin : Bool} {ty : FieldType} (j : Nat) (hd : M.2.2.2[j]? = some (pc, .getfield idx, 3)) (hf : FL M.1.2.1 idx ci kf fin ty) (ha : 0 < a ∧ a < n) (hs : (S a).1 = ci) (hc : ci < 12) (ht : fc ci kf = 2) (hk : (S a).2.2 kf = some (r : Int)) (h : V M d (pc + 3) L (.ref r :: st) n S g k z P) : V M d pc L (.ref a :: st) n S g k z P :=
  v_get0 j hd hf ha hs hc (by unfold gv; rw [ht, hk]; exact h)
set_option maxHeartbeats 1000000 in
theorem v_put0 {a ci kf idx : Nat} {ty : FieldType} {v : Value} {x : Int} (j : Nat) (hd : M.2.2.2[j]? = some (pc, .putfield idx, 3)) (hf : FL M.1.2.1 idx ci kf false ty) (ha : 0 < a ∧ a < n) (hs : (S a).1 = ci) (hc : ci < 12) (hv : vA (fc ci kf) x = v) (hr : rg (fc ci kf) x) (hk : (S a).2.2 kf = none) (hn : ∀ b, narrow ty (cv b v) = cv b v) (hfit : ∀ b, fits ty (cv b v) = true) (h : V M d (pc + 3) L st n S (up2 g a kf x) k z P) : V M d pc L (v :: .ref a :: st) n S g k z P := by
  intro p l e R s m args below meth c b D dA Q C hq H locs ls hl hP hS
  obtain ⟨Cn, T, N, ref, h1, h2, h3, h4, h5, h6, h7, h8, ⟨ty0, h9⟩, h10, h11⟩ := hf
  have hap := va_apart (own := M.1.2.1) C.2.2.2.2.1 h4 ty0 h9 h10 C.2.2.2.2.2.1.1 h1
  obtain ⟨cell, q1, q2, q3, q4⟩ := hP.obj ha hs hc
  obtain ⟨hSl, hfc, kC, hkC, hkind⟩ := C.2.2.2.2.2.1.1.1 ci _ h1
  obtain ⟨cf, kf', fi, f, hi, hsl⟩ := hSl kf h3
  have hsame : s.fieldFound? ref (T kf).2.1 (T kf).2.2.1 = some (cf, kf', fi, f) := by
    rcases h6 with e | e
    · rw [← e]; exact hi
    · exact u_same (C.2.2.2.2.1 _ e) _ hi
  have hlay := C.2.2.2.2.1 _ (h4 _ (u_in_lay h3))
  unfold u_lay at hlay
  rw [if_neg (by rw [h7]; decide)] at hlay
  have hst := (u_facts hfc hkC (u_lays C.2.2.2.2.1 h4 h3) hi).1
  have h6' := u_store hfc hkC hkind hlay hi h8 (hn b) (hfit b)
  have hkN : kf < nf ci := by rw [h2]; exact h3
  obtain ⟨a', rfl⟩ : ∃ a', a = a' + 1 := ⟨a - 1, by omega⟩
  refine W.putK C.1 C.2.1 (f := f) (v := cv b v) (a := b + (a' + 1)) ⟨C.2.2.2.1, C.2.2.2.2.1 _ h5, ⟨_, _, _, hsame⟩, hst⟩ (by rw [q2]; exact h6') q1 q3 (by rw [hsl]; exact k2_hasslot (q4 kf hkN)) rfl rfl (C.dec hd) fun H' e1 e2 e3 => ?_
  rw [hsl] at e1 ⊢
  have hnew : t_OB (b + (a' + 1)) (D.1 ci) (nf ci) (D.2 ci) H' (updV (fun k => cv b (vA (fc ci k) (gv S g (a' + 1) k))) kf (cv b v)) := ⟨_, e1, q2, q3, t_set q4 (by rw [h2]; exact hap) hkN (cv b v)⟩
  refine h p l e R s m args below meth c b D dA Q C hq H' _ ls hl (hP.set ha e2 e3 (Or.inl ⟨by rw [hs]; exact hc, ?_⟩) (by rw [hs]; exact hr)) (hS.put e2 e3 (by show b < b + (a' + 1); omega))
  rw [hs]
  refine hnew.to (fun q _ => ?_)
  unfold updV
  by_cases e : q = kf
  · subst e
    rw [if_pos rfl]
    have e9 : gv S (up2 g (a' + 1) q x) (a' + 1) q = x := by unfold gv; rw [hk]; exact if_pos ⟨rfl, rfl⟩
    rw [e9, hv]
  · rw [if_neg e]
    have e9 : gv S (up2 g (a' + 1) kf x) (a' + 1) q = gv S g (a' + 1) q := by unfold gv; rw [show up2 g (a' + 1) kf x (a' + 1) q = g (a' + 1) q from if_neg (fun r => e r.2)]
    rw [e9]
set_option maxHeartbeats 1000000 in
theorem v_putF0 {a ci kf idx : Nat} {ty : FieldType} {v : Value} {x : Int} (j : Nat) (hd : M.2.2.2[j]? = some (pc, .putfield idx, 3)) (hf : FL M.1.2.1 idx ci kf true ty) (ha : 0 < a ∧ a < n) (hs : (S a).1 = ci) (hc : ci < 12) (hv : vA (fc ci kf) x = v) (hr : rg (fc ci kf) x) (hk : (S a).2.2 kf = none) (hin : M.1.1.name = "<init>") (hn : ∀ b, narrow ty (cv b v) = cv b v) (hfit : ∀ b, fits ty (cv b v) = true) (h : V M d (pc + 3) L st n S (up2 g a kf x) k z P) : V M d pc L (v :: .ref a :: st) n S g k z P := by
  intro p l e R s m args below meth c b D dA Q C hq H locs ls hl hP hS
  obtain ⟨Cn, T, N, ref, h1, h2, h3, h4, h5, h6, h7, h8, ⟨ty0, h9⟩, h10, h11⟩ := hf
  have hap := va_apart (own := M.1.2.1) C.2.2.2.2.1 h4 ty0 h9 h10 C.2.2.2.2.2.1.1 h1
  obtain ⟨cell, q1, q2, q3, q4⟩ := hP.obj ha hs hc
  obtain ⟨hSl, hfc, kC, hkC, hkind⟩ := C.2.2.2.2.2.1.1.1 ci _ h1
  obtain ⟨cf, kf', fi, f, hi, hsl⟩ := hSl kf h3
  have hsame : s.fieldFound? ref (T kf).2.1 (T kf).2.2.1 = some (cf, kf', fi, f) := by
    rcases h6 with e | e
    · rw [← e]; exact hi
    · exact u_same (C.2.2.2.2.1 _ e) _ hi
  have hlay := C.2.2.2.2.1 _ (h4 _ (u_in_lay h3))
  unfold u_lay at hlay
  rw [if_pos h7] at hlay
  have hst := (u_facts hfc hkC (u_lays C.2.2.2.2.1 h4 h3) hi).1
  have hcf : m.cls = cf := by
    obtain ⟨_, _, c', _, _, _, -, -, hf', -, -, -, hown2, -⟩ := Cond.laysFinal_spec hlay
    have e1 : c' = cf := by have := hi.symm.trans hf'; simp at this; exact this.1.symm
    rw [h11 rfl] at hown2
    rw [← e1]; exact Option.some.inj (C.2.2.2.1.symm.trans hown2)
  have h6' := u_fits hfc hkC hkind (Or.inr hlay) hi h8 (hn b) (hfit b)
  have hkN : kf < nf ci := by rw [h2]; exact h3
  obtain ⟨a', rfl⟩ : ∃ a', a = a' + 1 := ⟨a - 1, by omega⟩
  refine W.putFinK C.1 C.2.1 (v := cv b v) (a := b + (a' + 1)) C.2.2.2.1 (C.2.2.2.2.1 _ h5) hsame hst hcf (C.2.2.2.2.2.2.2.1.trans hin) (by rw [q2]; exact h6') q1 q3 (by rw [hsl]; exact k2_hasslot (q4 kf hkN)) rfl rfl (C.dec hd) fun H' e1 e2 e3 => ?_
  rw [hsl] at e1 ⊢
  have hnew : t_OB (b + (a' + 1)) (D.1 ci) (nf ci) (D.2 ci) H' (updV (fun k => cv b (vA (fc ci k) (gv S g (a' + 1) k))) kf (cv b v)) := ⟨_, e1, q2, q3, t_set q4 (by rw [h2]; exact hap) hkN (cv b v)⟩
  refine h p l e R s m args below meth c b D dA Q C hq H' _ ls hl (hP.set ha e2 e3 (Or.inl ⟨by rw [hs]; exact hc, ?_⟩) (by rw [hs]; exact hr)) (hS.put e2 e3 (by show b < b + (a' + 1); omega))
  rw [hs]
  refine hnew.to (fun q _ => ?_)
  unfold updV
  by_cases e : q = kf
  · subst e
    rw [if_pos rfl]
    have e9 : gv S (up2 g (a' + 1) q x) (a' + 1) q = x := by unfold gv; rw [hk]; exact if_pos ⟨rfl, rfl⟩
    rw [e9, hv]
  · rw [if_neg e]
    have e9 : gv S (up2 g (a' + 1) kf x) (a' + 1) q = gv S g (a' + 1) q := by unfold gv; rw [show up2 g (a' + 1) kf x (a' + 1) q = g (a' + 1) q from if_neg (fun r => e r.2)]
    rw [e9]
theorem v_putI {a ci kf idx : Nat} {x : Int} (j : Nat) (hd : M.2.2.2[j]? = some (pc, .putfield idx, 3)) (hf : FL M.1.2.1 idx ci kf false .int) (ha : 0 < a ∧ a < n) (hs : (S a).1 = ci) (hc : ci < 12) (ht : fc ci kf = 0) (hk : (S a).2.2 kf = none) (hx : i3 x) (h : V M d (pc + 3) L st n S (up2 g a kf x) k z P) : V M d pc L (I_ x :: .ref a :: st) n S g k z P :=
  v_put0 j hd hf ha hs hc (by rw [ht]; rfl) (by rw [ht]; exact hx) hk (fun _ => rfl) (fun _ => rfl) h
theorem v_putZ {a ci kf idx : Nat} {x : Int} (j : Nat) (hd : M.2.2.2[j]? = some (pc, .putfield idx, 3)) (hf : FL M.1.2.1 idx ci kf false .boolean) (ha : 0 < a ∧ a < n) (hs : (S a).1 = ci) (hc : ci < 12) (ht : fc ci kf = 0) (hk : (S a).2.2 kf = none) (hx : x = 0 ∨ x = 1) (h : V M d (pc + 3) L st n S (up2 g a kf x) k z P) : V M d pc L (I_ x :: .ref a :: st) n S g k z P :=
  v_put0 j hd hf ha hs hc (by rw [ht]; rfl) (by rw [ht]; show i3 x; rcases hx with rfl | rfl <;> decide) hk (fun _ => by rcases hx with rfl | rfl <;> rfl) (fun _ => by rcases hx with rfl | rfl <;> rfl) h
theorem v_putL {a ci kf idx : Nat} {x : Int} (j : Nat) (hd : M.2.2.2[j]? = some (pc, .putfield idx, 3)) (hf : FL M.1.2.1 idx ci kf false .long) (ha : 0 < a ∧ a < n) (hs : (S a).1 = ci) (hc : ci < 12) (ht : fc ci kf = 1) (hk : (S a).2.2 kf = none) (hx : i6 x) (h : V M d (pc + 3) L st n S (up2 g a kf x) k z P) : V M d pc L (L_ x :: .ref a :: st) n S g k z P :=
  v_put0 j hd hf ha hs hc (by rw [ht]; rfl) (by rw [ht]; exact hx) hk (fun _ => rfl) (fun _ => rfl) h
theorem v_putR {a ci kf idx r : Nat} {nm : String} (j : Nat) (hd : M.2.2.2[j]? = some (pc, .putfield idx, 3)) (hf : FL M.1.2.1 idx ci kf false (.object nm)) (ha : 0 < a ∧ a < n) (hs : (S a).1 = ci) (hc : ci < 12) (ht : fc ci kf = 2) (hk : (S a).2.2 kf = none) (h : V M d (pc + 3) L st n S (up2 g a kf (r : Int)) k z P) : V M d pc L (.ref r :: .ref a :: st) n S g k z P :=
  v_put0 j hd hf ha hs hc (by rw [ht]; rfl) (by rw [ht]; exact Int.natCast_nonneg r) hk (fun _ => by cases r <;> rfl) (fun _ => by cases r <;> rfl) h
theorem v_putFI {a ci kf idx : Nat} {x : Int} (j : Nat) (hd : M.2.2.2[j]? = some (pc, .putfield idx, 3)) (hf : FL M.1.2.1 idx ci kf true .int) (ha : 0 < a ∧ a < n) (hs : (S a).1 = ci) (hc : ci < 12) (ht : fc ci kf = 0) (hk : (S a).2.2 kf = none) (hin : M.1.1.name = "<init>") (hx : i3 x) (h : V M d (pc + 3) L st n S (up2 g a kf x) k z P) : V M d pc L (I_ x :: .ref a :: st) n S g k z P :=
  v_putF0 j hd hf ha hs hc (by rw [ht]; rfl) (by rw [ht]; exact hx) hk hin (fun _ => rfl) (fun _ => rfl) h
theorem v_putFZ {a ci kf idx : Nat} {x : Int} (j : Nat) (hd : M.2.2.2[j]? = some (pc, .putfield idx, 3)) (hf : FL M.1.2.1 idx ci kf true .boolean) (ha : 0 < a ∧ a < n) (hs : (S a).1 = ci) (hc : ci < 12) (ht : fc ci kf = 0) (hk : (S a).2.2 kf = none) (hin : M.1.1.name = "<init>") (hx : x = 0 ∨ x = 1) (h : V M d (pc + 3) L st n S (up2 g a kf x) k z P) : V M d pc L (I_ x :: .ref a :: st) n S g k z P :=
  v_putF0 j hd hf ha hs hc (by rw [ht]; rfl) (by rw [ht]; show i3 x; rcases hx with rfl | rfl <;> decide) hk hin (fun _ => by rcases hx with rfl | rfl <;> rfl) (fun _ => by rcases hx with rfl | rfl <;> rfl) h
theorem v_putFL {a ci kf idx : Nat} {x : Int} (j : Nat) (hd : M.2.2.2[j]? = some (pc, .putfield idx, 3)) (hf : FL M.1.2.1 idx ci kf true .long) (ha : 0 < a ∧ a < n) (hs : (S a).1 = ci) (hc : ci < 12) (ht : fc ci kf = 1) (hk : (S a).2.2 kf = none) (hin : M.1.1.name = "<init>") (hx : i6 x) (h : V M d (pc + 3) L st n S (up2 g a kf x) k z P) : V M d pc L (L_ x :: .ref a :: st) n S g k z P :=
  v_putF0 j hd hf ha hs hc (by rw [ht]; rfl) (by rw [ht]; exact hx) hk hin (fun _ => rfl) (fun _ => rfl) h
theorem v_putFR {a ci kf idx r : Nat} {nm : String} (j : Nat) (hd : M.2.2.2[j]? = some (pc, .putfield idx, 3)) (hf : FL M.1.2.1 idx ci kf true (.object nm)) (ha : 0 < a ∧ a < n) (hs : (S a).1 = ci) (hc : ci < 12) (ht : fc ci kf = 2) (hk : (S a).2.2 kf = none) (hin : M.1.1.name = "<init>") (h : V M d (pc + 3) L st n S (up2 g a kf (r : Int)) k z P) : V M d pc L (.ref r :: .ref a :: st) n S g k z P :=
  v_putF0 j hd hf ha hs hc (by rw [ht]; rfl) (by rw [ht]; exact Int.natCast_nonneg r) hk hin (fun _ => by cases r <;> rfl) (fun _ => by cases r <;> rfl) h
theorem v_putA {a ci kf idx r : Nat} {et : FieldType} (j : Nat) (hd : M.2.2.2[j]? = some (pc, .putfield idx, 3)) (hf : FL M.1.2.1 idx ci kf false (.array et)) (ha : 0 < a ∧ a < n) (hs : (S a).1 = ci) (hc : ci < 12) (ht : fc ci kf = 2) (hk : (S a).2.2 kf = none) (h : V M d (pc + 3) L st n S (up2 g a kf (r : Int)) k z P) : V M d pc L (.ref r :: .ref a :: st) n S g k z P :=
  v_put0 j hd hf ha hs hc (by rw [ht]; rfl) (by rw [ht]; exact Int.natCast_nonneg r) hk (fun _ => by cases r <;> rfl) (fun _ => by cases r <;> rfl) h
theorem v_putFA {a ci kf idx r : Nat} {et : FieldType} (j : Nat) (hd : M.2.2.2[j]? = some (pc, .putfield idx, 3)) (hf : FL M.1.2.1 idx ci kf true (.array et)) (ha : 0 < a ∧ a < n) (hs : (S a).1 = ci) (hc : ci < 12) (ht : fc ci kf = 2) (hk : (S a).2.2 kf = none) (hin : M.1.1.name = "<init>") (h : V M d (pc + 3) L st n S (up2 g a kf (r : Int)) k z P) : V M d pc L (.ref r :: .ref a :: st) n S g k z P :=
  v_putF0 j hd hf ha hs hc (by rw [ht]; rfl) (by rw [ht]; exact Int.natCast_nonneg r) hk hin (fun _ => by cases r <;> rfl) (fun _ => by cases r <;> rfl) h
end VRows3
