/-! ROWS OF ARRAYS -/
theorem ixN {x : Int} {N : Nat} (h : 0 ≤ x ∧ x < (N : Int)) (hN : N ≤ 100000) : vp_in (Int32.ofInt x) N ∧ (Int32.ofInt x).toNatClampNeg = x.toNat ∧ x.toNat < N := by
  obtain ⟨q, rfl⟩ : ∃ q : Nat, x = (q : Int) := ⟨x.toNat, by omega⟩
  have e : Int32.ofInt (q : Int) = nI q := Int32.ofInt_eq_ofNat
  rw [e]
  exact ⟨vp_in_nI (by omega) (by omega), by rw [nI_clamp (by omega)]; rfl, by show q < N; omega⟩
theorem arr_upd {cA : ClassId} {N t a q : Nat} {b : Nat} {g : Hp} {x : Int} {v : Value} (hv : vA (fc t q) x = v) : arrV cA N (updV (fun j => cv b (vA (fc t j) (g a j))) q (cv b v)) = arrV cA N (fun j => cv b (vA (fc t j) (up2 g a q x a j))) := by
  refine congrArg (arrV cA N) (funext fun j => ?_)
  unfold updV up2
  by_cases e : j = q
  · subst e; rw [if_pos rfl, if_pos ⟨rfl, rfl⟩, hv]
  · rw [if_neg e, if_neg (fun r => e r.2)]
section VRows4
variable {M : MI} {d pc : Nat} {L L' : List (Nat × Value)} {st : List Value} {n : Nat} {S : Nat → Shp} {g : Hp} {k z : Nat} {P : Pst}
theorem v_iald {a N : Nat} {x : Int} (j : Nat) (hd : M.2.2.2[j]? = some (pc, .iaload, 1)) (ha : 0 < a ∧ a < n) (hs : (S a).1 = 13) (hN : (S a).2.1 = N) (hN2 : N ≤ 100000) (hx : 0 ≤ x ∧ x < (N : Int)) (h : V M d (pc + 1) L (I_ (g a x.toNat) :: st) n S g k z P) : V M d pc L (I_ x :: .ref a :: st) n S g k z P := by
  intro p l e R s m args below meth c b D dA Q C hq H locs ls hl hP hS
  have w := h p l e R s m args below meth c b D dA Q C hq H locs ls hl hP hS
  have hA := hP.arr ha hs (by decide)
  rw [hN] at hA
  obtain ⟨hin, hcl, hlt⟩ := ixN hx hN2
  obtain ⟨a', rfl⟩ : ∃ a', a = a' + 1 := ⟨a - 1, by omega⟩
  refine W.iald C.1 C.2.1 hA ((C.2.2.2.2.2.1.1.2 1 _ rfl).1 _ _) (fun q => by cases q) (by show ¬ (_ ∨ (arrV _ _ _).slots.size ≤ _); rw [arrV_size]; exact hin) (v := cv b (I_ (g (a' + 1) x.toNat))) (by rw [hcl, arrV_read _ _ hlt]; rfl) rfl rfl (C.dec hd) w
theorem v_lald {a N : Nat} {x : Int} (j : Nat) (hd : M.2.2.2[j]? = some (pc, .laload, 1)) (ha : 0 < a ∧ a < n) (hs : (S a).1 = 14) (hN : (S a).2.1 = N) (hN2 : N ≤ 100000) (hx : 0 ≤ x ∧ x < (N : Int)) (h : V M d (pc + 1) L (L_ (g a x.toNat) :: st) n S g k z P) : V M d pc L (I_ x :: .ref a :: st) n S g k z P := by
  intro p l e R s m args below meth c b D dA Q C hq H locs ls hl hP hS
  have w := h p l e R s m args below meth c b D dA Q C hq H locs ls hl hP hS
  have hA := hP.arr ha hs (by decide)
  rw [hN] at hA
  obtain ⟨hin, hcl, hlt⟩ := ixN hx hN2
  obtain ⟨a', rfl⟩ : ∃ a', a = a' + 1 := ⟨a - 1, by omega⟩
  refine W.lald C.1 C.2.1 hA ((C.2.2.2.2.2.1.1.2 2 _ rfl).1 _ _) (fun q => by cases q) (by show ¬ (_ ∨ (arrV _ _ _).slots.size ≤ _); rw [arrV_size]; exact hin) (v := cv b (L_ (g (a' + 1) x.toNat))) (by rw [hcl, arrV_read _ _ hlt]; rfl) rfl rfl (C.dec hd) w
theorem v_bald {a N : Nat} {x : Int} (j : Nat) (hd : M.2.2.2[j]? = some (pc, .baload, 1)) (ha : 0 < a ∧ a < n) (hs : (S a).1 = 12) (hN : (S a).2.1 = N) (hN2 : N ≤ 100000) (hx : 0 ≤ x ∧ x < (N : Int)) (h : V M d (pc + 1) L (I_ (g a x.toNat) :: st) n S g k z P) : V M d pc L (I_ x :: .ref a :: st) n S g k z P := by
  intro p l e R s m args below meth c b D dA Q C hq H locs ls hl hP hS
  have w := h p l e R s m args below meth c b D dA Q C hq H locs ls hl hP hS
  have hA := hP.arr ha hs (by decide)
  rw [hN] at hA
  obtain ⟨hin, hcl, hlt⟩ := ixN hx hN2
  obtain ⟨a', rfl⟩ : ∃ a', a = a' + 1 := ⟨a - 1, by omega⟩
  refine W.bald C.1 C.2.1 hA ((C.2.2.2.2.2.1.1.2 0 _ rfl).1 _ _) (fun q => by cases q) (by show ¬ (_ ∨ (arrV _ _ _).slots.size ≤ _); rw [arrV_size]; exact hin) (v := cv b (I_ (g (a' + 1) x.toNat))) (by rw [hcl, arrV_read _ _ hlt]; rfl) rfl rfl (C.dec hd) w
theorem v_zald {a N : Nat} {x : Int} (j : Nat) (hd : M.2.2.2[j]? = some (pc, .baload, 1)) (ha : 0 < a ∧ a < n) (hs : (S a).1 = 15) (hN : (S a).2.1 = N) (hN2 : N ≤ 100000) (hx : 0 ≤ x ∧ x < (N : Int)) (h : V M d (pc + 1) L (I_ (g a x.toNat) :: st) n S g k z P) : V M d pc L (I_ x :: .ref a :: st) n S g k z P := by
  intro p l e R s m args below meth c b D dA Q C hq H locs ls hl hP hS
  have w := h p l e R s m args below meth c b D dA Q C hq H locs ls hl hP hS
  have hA := hP.arr ha hs (by decide)
  rw [hN] at hA
  obtain ⟨hin, hcl, hlt⟩ := ixN hx hN2
  obtain ⟨a', rfl⟩ : ∃ a', a = a' + 1 := ⟨a - 1, by omega⟩
  refine W.zald C.1 C.2.1 hA ((C.2.2.2.2.2.1.1.2 3 _ rfl).1 _ _) (fun q => by cases q) (by show ¬ (_ ∨ (arrV _ _ _).slots.size ≤ _); rw [arrV_size]; exact hin) (v := cv b (I_ (g (a' + 1) x.toNat))) (by rw [hcl, arrV_read _ _ hlt]; rfl) rfl rfl (C.dec hd) w
theorem v_pald {a N : Nat} {x : Int} (j : Nat) (hd : M.2.2.2[j]? = some (pc, .aaload, 1)) (ha : 0 < a ∧ a < n) (hs : (S a).1 = 16) (hN : (S a).2.1 = N) (hN2 : N ≤ 100000) (hx : 0 ≤ x ∧ x < (N : Int)) (h : V M d (pc + 1) L (.ref (g a x.toNat).toNat :: st) n S g k z P) : V M d pc L (I_ x :: .ref a :: st) n S g k z P := by
  intro p l e R s m args below meth c b D dA Q C hq H locs ls hl hP hS
  have w := h p l e R s m args below meth c b D dA Q C hq H locs ls hl hP hS
  have hA := hP.arr ha hs (by decide)
  rw [hN] at hA
  obtain ⟨hin, hcl, hlt⟩ := ixN hx hN2
  obtain ⟨a', rfl⟩ : ∃ a', a = a' + 1 := ⟨a - 1, by omega⟩
  refine W.aald C.1 C.2.1 hA ((C.2.2.2.2.2.1.1.2 4 _ rfl).1 _ _) rfl (fun q => by cases q) (by show ¬ (_ ∨ (arrV _ _ _).slots.size ≤ _); rw [arrV_size]; exact hin) (v := cv b (.ref (g (a' + 1) x.toNat).toNat)) (by rw [hcl, arrV_read _ _ hlt]; rfl) rfl rfl (C.dec hd) w
theorem v_rald {a N : Nat} {x : Int} (j : Nat) (hd : M.2.2.2[j]? = some (pc, .aaload, 1)) (ha : 0 < a ∧ a < n) (hs : (S a).1 = 17) (hN : (S a).2.1 = N) (hN2 : N ≤ 100000) (hx : 0 ≤ x ∧ x < (N : Int)) (h : V M d (pc + 1) L (.ref (g a x.toNat).toNat :: st) n S g k z P) : V M d pc L (I_ x :: .ref a :: st) n S g k z P := by
  intro p l e R s m args below meth c b D dA Q C hq H locs ls hl hP hS
  have w := h p l e R s m args below meth c b D dA Q C hq H locs ls hl hP hS
  have hA := hP.arr ha hs (by decide)
  rw [hN] at hA
  obtain ⟨hin, hcl, hlt⟩ := ixN hx hN2
  obtain ⟨a', rfl⟩ : ∃ a', a = a' + 1 := ⟨a - 1, by omega⟩
  refine W.aald C.1 C.2.1 hA ((C.2.2.2.2.2.1.1.2 5 _ rfl).1 _ _) rfl (fun q => by cases q) (by show ¬ (_ ∨ (arrV _ _ _).slots.size ≤ _); rw [arrV_size]; exact hin) (v := cv b (.ref (g (a' + 1) x.toNat).toNat)) (by rw [hcl, arrV_read _ _ hlt]; rfl) rfl rfl (C.dec hd) w
theorem v_tald {a N : Nat} {x : Int} (j : Nat) (hd : M.2.2.2[j]? = some (pc, .aaload, 1)) (ha : 0 < a ∧ a < n) (hs : (S a).1 = 18) (hN : (S a).2.1 = N) (hN2 : N ≤ 100000) (hx : 0 ≤ x ∧ x < (N : Int)) (h : V M d (pc + 1) L (.ref (g a x.toNat).toNat :: st) n S g k z P) : V M d pc L (I_ x :: .ref a :: st) n S g k z P := by
  intro p l e R s m args below meth c b D dA Q C hq H locs ls hl hP hS
  have w := h p l e R s m args below meth c b D dA Q C hq H locs ls hl hP hS
  have hA := hP.arr ha hs (by decide)
  rw [hN] at hA
  obtain ⟨hin, hcl, hlt⟩ := ixN hx hN2
  obtain ⟨a', rfl⟩ : ∃ a', a = a' + 1 := ⟨a - 1, by omega⟩
  refine W.aald C.1 C.2.1 hA ((C.2.2.2.2.2.1.1.2 6 _ rfl).1 _ _) rfl (fun q => by cases q) (by show ¬ (_ ∨ (arrV _ _ _).slots.size ≤ _); rw [arrV_size]; exact hin) (v := cv b (.ref (g (a' + 1) x.toNat).toNat)) (by rw [hcl, arrV_read _ _ hlt]; rfl) rfl rfl (C.dec hd) w
theorem v_aald {a N : Nat} {x : Int} (j : Nat) (hd : M.2.2.2[j]? = some (pc, .aaload, 1)) (ha : 0 < a ∧ a < n) (hs : (S a).1 = 19) (hN : (S a).2.1 = N) (hN2 : N ≤ 100000) (hx : 0 ≤ x ∧ x < (N : Int)) (h : V M d (pc + 1) L (.ref (g a x.toNat).toNat :: st) n S g k z P) : V M d pc L (I_ x :: .ref a :: st) n S g k z P := by
  intro p l e R s m args below meth c b D dA Q C hq H locs ls hl hP hS
  have w := h p l e R s m args below meth c b D dA Q C hq H locs ls hl hP hS
  have hA := hP.arr ha hs (by decide)
  rw [hN] at hA
  obtain ⟨hin, hcl, hlt⟩ := ixN hx hN2
  obtain ⟨a', rfl⟩ : ∃ a', a = a' + 1 := ⟨a - 1, by omega⟩
  refine W.aald C.1 C.2.1 hA ((C.2.2.2.2.2.1.1.2 7 _ rfl).1 _ _) rfl (fun q => by cases q) (by show ¬ (_ ∨ (arrV _ _ _).slots.size ≤ _); rw [arrV_size]; exact hin) (v := cv b (.ref (g (a' + 1) x.toNat).toNat)) (by rw [hcl, arrV_read _ _ hlt]; rfl) rfl rfl (C.dec hd) w
theorem v_iast {a N : Nat} {x y : Int} (j : Nat) (hd : M.2.2.2[j]? = some (pc, .iastore, 1)) (ha : 0 < a ∧ a < n) (hs : (S a).1 = 13) (hN : (S a).2.1 = N) (hN2 : N ≤ 100000) (hy : 0 ≤ y ∧ y < (N : Int)) (hx : i3 x) (h : V M d (pc + 1) L st n S (up2 g a y.toNat x) k z P) : V M d pc L (I_ x :: I_ y :: .ref a :: st) n S g k z P := by
  intro p l e R s m args below meth c b D dA Q C hq H locs ls hl hP hS
  have hA := hP.arr ha hs (by decide)
  rw [hN] at hA
  obtain ⟨hin, hcl, hlt⟩ := ixN hy hN2
  obtain ⟨a', rfl⟩ : ∃ a', a = a' + 1 := ⟨a - 1, by omega⟩
  refine W.iast C.1 C.2.1 hA ((C.2.2.2.2.2.1.1.2 1 _ rfl).1 _ _) (fun q => by cases q) (by show ¬ (_ ∨ (arrV _ _ _).slots.size ≤ _); rw [arrV_size]; exact hin) rfl rfl (C.dec hd) fun H' e1 e2 e3 => ?_
  refine h p l e R s m args below meth c b D dA Q C hq H' _ ls hl (hP.set ha e2 e3 (Or.inr ⟨by rw [hs]; decide, fun _ => ?_⟩) (by rw [hs]; exact hx)) (hS.put e2 e3 (by show b < b + (a' + 1); omega))
  rw [e1, arrV_store, hcl, hs, hN]
  exact congrArg some (arr_upd (v := I_ x) rfl)
theorem v_last {a N : Nat} {x y : Int} (j : Nat) (hd : M.2.2.2[j]? = some (pc, .lastore, 1)) (ha : 0 < a ∧ a < n) (hs : (S a).1 = 14) (hN : (S a).2.1 = N) (hN2 : N ≤ 100000) (hy : 0 ≤ y ∧ y < (N : Int)) (hx : i6 x) (h : V M d (pc + 1) L st n S (up2 g a y.toNat x) k z P) : V M d pc L (L_ x :: I_ y :: .ref a :: st) n S g k z P := by
  intro p l e R s m args below meth c b D dA Q C hq H locs ls hl hP hS
  have hA := hP.arr ha hs (by decide)
  rw [hN] at hA
  obtain ⟨hin, hcl, hlt⟩ := ixN hy hN2
  obtain ⟨a', rfl⟩ : ∃ a', a = a' + 1 := ⟨a - 1, by omega⟩
  refine W.last C.1 C.2.1 hA ((C.2.2.2.2.2.1.1.2 2 _ rfl).1 _ _) (fun q => by cases q) (by show ¬ (_ ∨ (arrV _ _ _).slots.size ≤ _); rw [arrV_size]; exact hin) rfl rfl (C.dec hd) fun H' e1 e2 e3 => ?_
  refine h p l e R s m args below meth c b D dA Q C hq H' _ ls hl (hP.set ha e2 e3 (Or.inr ⟨by rw [hs]; decide, fun _ => ?_⟩) (by rw [hs]; exact hx)) (hS.put e2 e3 (by show b < b + (a' + 1); omega))
  rw [e1, arrV_store, hcl, hs, hN]
  exact congrArg some (arr_upd (v := L_ x) rfl)
theorem v_bast {a N : Nat} {x y : Int} (j : Nat) (hd : M.2.2.2[j]? = some (pc, .bastore, 1)) (ha : 0 < a ∧ a < n) (hs : (S a).1 = 12) (hN : (S a).2.1 = N) (hN2 : N ≤ 100000) (hy : 0 ≤ y ∧ y < (N : Int)) (hnr : narrow .byte (I_ x) = I_ x) (hx : i3 x) (h : V M d (pc + 1) L st n S (up2 g a y.toNat x) k z P) : V M d pc L (I_ x :: I_ y :: .ref a :: st) n S g k z P := by
  intro p l e R s m args below meth c b D dA Q C hq H locs ls hl hP hS
  have hA := hP.arr ha hs (by decide)
  rw [hN] at hA
  obtain ⟨hin, hcl, hlt⟩ := ixN hy hN2
  obtain ⟨a', rfl⟩ : ∃ a', a = a' + 1 := ⟨a - 1, by omega⟩
  refine W.bast C.1 C.2.1 hA ((C.2.2.2.2.2.1.1.2 0 _ rfl).1 _ _) (fun q => by cases q) (by show ¬ (_ ∨ (arrV _ _ _).slots.size ≤ _); rw [arrV_size]; exact hin) rfl rfl (C.dec hd) fun H' e1 e2 e3 => ?_
  rw [hnr] at e1
  refine h p l e R s m args below meth c b D dA Q C hq H' _ ls hl (hP.set ha e2 e3 (Or.inr ⟨by rw [hs]; decide, fun _ => ?_⟩) (by rw [hs]; exact hx)) (hS.put e2 e3 (by show b < b + (a' + 1); omega))
  rw [e1, arrV_store, hcl, hs, hN]
  exact congrArg some (arr_upd (v := I_ x) rfl)
theorem v_zast {a N : Nat} {x y : Int} (j : Nat) (hd : M.2.2.2[j]? = some (pc, .bastore, 1)) (ha : 0 < a ∧ a < n) (hs : (S a).1 = 15) (hN : (S a).2.1 = N) (hN2 : N ≤ 100000) (hy : 0 ≤ y ∧ y < (N : Int)) (hz : x = 0 ∨ x = 1) (hx : i3 x) (h : V M d (pc + 1) L st n S (up2 g a y.toNat x) k z P) : V M d pc L (I_ x :: I_ y :: .ref a :: st) n S g k z P := by
  intro p l e R s m args below meth c b D dA Q C hq H locs ls hl hP hS
  have hA := hP.arr ha hs (by decide)
  rw [hN] at hA
  obtain ⟨hin, hcl, hlt⟩ := ixN hy hN2
  obtain ⟨a', rfl⟩ : ∃ a', a = a' + 1 := ⟨a - 1, by omega⟩
  refine W.zast C.1 C.2.1 hA ((C.2.2.2.2.2.1.1.2 3 _ rfl).1 _ _) (fun q => by cases q) (by show ¬ (_ ∨ (arrV _ _ _).slots.size ≤ _); rw [arrV_size]; exact hin) rfl rfl (C.dec hd) fun H' e1 e2 e3 => ?_
  rw [show narrow .boolean (I_ x) = I_ x by rcases hz with rfl | rfl <;> rfl] at e1
  refine h p l e R s m args below meth c b D dA Q C hq H' _ ls hl (hP.set ha e2 e3 (Or.inr ⟨by rw [hs]; decide, fun _ => ?_⟩) (by rw [hs]; exact hx)) (hS.put e2 e3 (by show b < b + (a' + 1); omega))
  rw [e1, arrV_store, hcl, hs, hN]
  exact congrArg some (arr_upd (v := I_ x) rfl)
/-- a cell of class ci may lie in an array over the class E -/
def Asg (ci : Nat) (E : String) : Prop := ∃ (C : String) (T : u_T) (N : Nat), vwCl[ci]? = some (C, T, N) ∧ (C = E ∨ (C, E) ∈ castl)
set_option maxHeartbeats 1000000 in
theorem v_past {a r N ci : Nat} {y : Int} (j : Nat) (hd : M.2.2.2[j]? = some (pc, .aastore, 1)) (ha : 0 < a ∧ a < n) (hs : (S a).1 = 16) (hN : (S a).2.1 = N) (hN2 : N ≤ 100000) (hy : 0 ≤ y ∧ y < (N : Int)) (hr : 0 < r ∧ r < n) (hsr : (S r).1 = ci) (hci : ci < 12) (hg : Asg ci "MobileMaker$Part") (h : V M d (pc + 1) L st n S (up2 g a y.toNat (r : Int)) k z P) : V M d pc L (.ref r :: I_ y :: .ref a :: st) n S g k z P := by
  intro p l e R s m args below meth c b D dA Q C hq H locs ls hl hP hS
  have hA := hP.arr ha hs (by decide)
  rw [hN] at hA
  obtain ⟨hin, hcl, hlt⟩ := ixN hy hN2
  have h0 : ¬ Int32.ofInt y < 0 := fun q => hin (Or.inl q)
  obtain ⟨a', rfl⟩ : ∃ a', a = a' + 1 := ⟨a - 1, by omega⟩
  obtain ⟨r', rfl⟩ : ∃ r', r = r' + 1 := ⟨r - 1, by omega⟩
  obtain ⟨cell, q1, q2, q3, q4⟩ := hP.obj hr hsr hci
  obtain ⟨Cn, T, N', g1, g2⟩ := hg
  obtain ⟨hSl, hfc, kC, hkC, hkind⟩ := C.2.2.2.2.2.1.1.1 ci _ g1
  obtain ⟨kA, comp, k1, k2, k3, -⟩ := (C.2.2.2.2.2.1.1.2 4 _ rfl).2
  obtain ⟨kE, hkE, -⟩ := Vm.findClass_spec k3
  have hfc' : s.vm.findClass Cn = some (D.1 ci) := hfc
  have hasg : s.vm.assignable cell.cls comp = true := by
    rw [q2]
    rcases g2 with e | e
    · subst e
      cases hfc'.symm.trans k3
      exact Vm.assignable_self _ _
    · obtain ⟨c0, t0, f1, f2, f3⟩ := Cond.castable_spec (va_Nw.use (A := args) rfl (C.2.2.2.2.2.1.2.2.2.2.1 _ e))
      cases hfc'.symm.trans f1
      cases k3.symm.trans f2
      exact f3
  refine W.aast C.1 C.2.1 hA (fun q h => by cases h) (fun h => by cases h) k1 k2 rfl hkE ⟨h0, by show _ < (arrV _ _ _).slots.size; rw [arrV_size, hcl]; exact hlt⟩ q1 (fun q h => by rw [q3] at h; cases h) (by rw [q2]; exact hkC) hasg rfl rfl (C.dec hd) fun H' e1 e2 e3 => ?_
  refine h p l e R s m args below meth c b D dA Q C hq H' _ ls hl (hP.set ha e2 e3 (Or.inr ⟨by rw [hs]; decide, fun _ => ?_⟩) (by rw [hs]; exact Int.natCast_nonneg _)) (hS.put e2 e3 (by show b < b + (a' + 1); omega))
  rw [e1, arrV_store, hcl, hs, hN]
  exact congrArg some (arr_upd (v := .ref (r' + 1)) rfl)
set_option maxHeartbeats 1000000 in
theorem v_rast {a r N ci : Nat} {y : Int} (j : Nat) (hd : M.2.2.2[j]? = some (pc, .aastore, 1)) (ha : 0 < a ∧ a < n) (hs : (S a).1 = 17) (hN : (S a).2.1 = N) (hN2 : N ≤ 100000) (hy : 0 ≤ y ∧ y < (N : Int)) (hr : 0 < r ∧ r < n) (hsr : (S r).1 = ci) (hci : ci < 12) (hg : Asg ci "MobileMaker$Rod") (h : V M d (pc + 1) L st n S (up2 g a y.toNat (r : Int)) k z P) : V M d pc L (.ref r :: I_ y :: .ref a :: st) n S g k z P := by
  intro p l e R s m args below meth c b D dA Q C hq H locs ls hl hP hS
  have hA := hP.arr ha hs (by decide)
  rw [hN] at hA
  obtain ⟨hin, hcl, hlt⟩ := ixN hy hN2
  have h0 : ¬ Int32.ofInt y < 0 := fun q => hin (Or.inl q)
  obtain ⟨a', rfl⟩ : ∃ a', a = a' + 1 := ⟨a - 1, by omega⟩
  obtain ⟨r', rfl⟩ : ∃ r', r = r' + 1 := ⟨r - 1, by omega⟩
  obtain ⟨cell, q1, q2, q3, q4⟩ := hP.obj hr hsr hci
  obtain ⟨Cn, T, N', g1, g2⟩ := hg
  obtain ⟨hSl, hfc, kC, hkC, hkind⟩ := C.2.2.2.2.2.1.1.1 ci _ g1
  obtain ⟨kA, comp, k1, k2, k3, -⟩ := (C.2.2.2.2.2.1.1.2 5 _ rfl).2
  obtain ⟨kE, hkE, -⟩ := Vm.findClass_spec k3
  have hfc' : s.vm.findClass Cn = some (D.1 ci) := hfc
  have hasg : s.vm.assignable cell.cls comp = true := by
    rw [q2]
    rcases g2 with e | e
    · subst e
      cases hfc'.symm.trans k3
      exact Vm.assignable_self _ _
    · obtain ⟨c0, t0, f1, f2, f3⟩ := Cond.castable_spec (va_Nw.use (A := args) rfl (C.2.2.2.2.2.1.2.2.2.2.1 _ e))
      cases hfc'.symm.trans f1
      cases k3.symm.trans f2
      exact f3
  refine W.aast C.1 C.2.1 hA (fun q h => by cases h) (fun h => by cases h) k1 k2 rfl hkE ⟨h0, by show _ < (arrV _ _ _).slots.size; rw [arrV_size, hcl]; exact hlt⟩ q1 (fun q h => by rw [q3] at h; cases h) (by rw [q2]; exact hkC) hasg rfl rfl (C.dec hd) fun H' e1 e2 e3 => ?_
  refine h p l e R s m args below meth c b D dA Q C hq H' _ ls hl (hP.set ha e2 e3 (Or.inr ⟨by rw [hs]; decide, fun _ => ?_⟩) (by rw [hs]; exact Int.natCast_nonneg _)) (hS.put e2 e3 (by show b < b + (a' + 1); omega))
  rw [e1, arrV_store, hcl, hs, hN]
  exact congrArg some (arr_upd (v := .ref (r' + 1)) rfl)
set_option maxHeartbeats 1000000 in
theorem v_tast {a r N ci : Nat} {y : Int} (j : Nat) (hd : M.2.2.2[j]? = some (pc, .aastore, 1)) (ha : 0 < a ∧ a < n) (hs : (S a).1 = 18) (hN : (S a).2.1 = N) (hN2 : N ≤ 100000) (hy : 0 ≤ y ∧ y < (N : Int)) (hr : 0 < r ∧ r < n) (hsr : (S r).1 = ci) (hci : ci < 12) (hg : Asg ci "MobileMaker$Tray") (h : V M d (pc + 1) L st n S (up2 g a y.toNat (r : Int)) k z P) : V M d pc L (.ref r :: I_ y :: .ref a :: st) n S g k z P := by
  intro p l e R s m args below meth c b D dA Q C hq H locs ls hl hP hS
  have hA := hP.arr ha hs (by decide)
  rw [hN] at hA
  obtain ⟨hin, hcl, hlt⟩ := ixN hy hN2
  have h0 : ¬ Int32.ofInt y < 0 := fun q => hin (Or.inl q)
  obtain ⟨a', rfl⟩ : ∃ a', a = a' + 1 := ⟨a - 1, by omega⟩
  obtain ⟨r', rfl⟩ : ∃ r', r = r' + 1 := ⟨r - 1, by omega⟩
  obtain ⟨cell, q1, q2, q3, q4⟩ := hP.obj hr hsr hci
  obtain ⟨Cn, T, N', g1, g2⟩ := hg
  obtain ⟨hSl, hfc, kC, hkC, hkind⟩ := C.2.2.2.2.2.1.1.1 ci _ g1
  obtain ⟨kA, comp, k1, k2, k3, -⟩ := (C.2.2.2.2.2.1.1.2 6 _ rfl).2
  obtain ⟨kE, hkE, -⟩ := Vm.findClass_spec k3
  have hfc' : s.vm.findClass Cn = some (D.1 ci) := hfc
  have hasg : s.vm.assignable cell.cls comp = true := by
    rw [q2]
    rcases g2 with e | e
    · subst e
      cases hfc'.symm.trans k3
      exact Vm.assignable_self _ _
    · obtain ⟨c0, t0, f1, f2, f3⟩ := Cond.castable_spec (va_Nw.use (A := args) rfl (C.2.2.2.2.2.1.2.2.2.2.1 _ e))
      cases hfc'.symm.trans f1
      cases k3.symm.trans f2
      exact f3
  refine W.aast C.1 C.2.1 hA (fun q h => by cases h) (fun h => by cases h) k1 k2 rfl hkE ⟨h0, by show _ < (arrV _ _ _).slots.size; rw [arrV_size, hcl]; exact hlt⟩ q1 (fun q h => by rw [q3] at h; cases h) (by rw [q2]; exact hkC) hasg rfl rfl (C.dec hd) fun H' e1 e2 e3 => ?_
  refine h p l e R s m args below meth c b D dA Q C hq H' _ ls hl (hP.set ha e2 e3 (Or.inr ⟨by rw [hs]; decide, fun _ => ?_⟩) (by rw [hs]; exact Int.natCast_nonneg _)) (hS.put e2 e3 (by show b < b + (a' + 1); omega))
  rw [e1, arrV_store, hcl, hs, hN]
  exact congrArg some (arr_upd (v := .ref (r' + 1)) rfl)
theorem v_alen {a N : Nat} {t : Nat} {ty : FieldType} (j : Nat) (hd : M.2.2.2[j]? = some (pc, .arraylength, 1)) (ha : 0 < a ∧ a < n) (hs : (S a).1 = t) (ht : 12 ≤ t ∧ t < 20) (hty : ∀ dA : Nat → ClassId, (aty dA)[t - 12]? = some (dA t, ty)) (hN : (S a).2.1 = N) (h : V M d (pc + 1) L (I_ (N : Int) :: st) n S g k z P) : V M d pc L (.ref a :: st) n S g k z P := by
  intro p l e R s m args below meth c b D dA Q C hq H locs ls hl hP hS
  have w := h p l e R s m args below meth c b D dA Q C hq H locs ls hl hP hS
  have hA := hP.arr ha hs ht
  rw [hN] at hA
  obtain ⟨a', rfl⟩ : ∃ a', a = a' + 1 := ⟨a - 1, by omega⟩
  refine W.alen C.1 C.2.1 hA ((C.2.2.2.2.2.1.1.2 (t - 12) _ (hty dA)).1 _ _) (n := Int32.ofInt (N : Int)) (by rw [arrV_size]; exact Int32.ofInt_eq_ofNat.symm) rfl rfl (C.dec hd) w
/-- what is held is in range -/
theorem v_rng (h : (∀ i q, 0 < i → i < n → rg (fc (S i).1 q) (g i q)) → V M d pc L st n S g k z P) : V M d pc L st n S g k z P :=
  fun p l e R s m args below meth c b D dA Q C hq H locs ls hl hP hS => h hP.2.2.1 p l e R s m args below meth c b D dA Q C hq H locs ls hl hP hS
/-- another picture of the same cells -/
theorem v_same {S' : Nat → Shp} {g' : Hp} (hs0 : ∀ q, g' 0 q = g 0 q) (hs : ∀ i, 0 < i → i < n → (S' i).1 = (S i).1 ∧ (S' i).2.1 = (S i).2.1 ∧ ((S i).1 < 12 → ∀ q, gv S' g' i q = gv S g i q) ∧ (12 ≤ (S i).1 → ∀ q, g' i q = g i q)) (hr : (∀ i q, 0 < i → i < n → rg (fc (S i).1 q) (g i q)) → ∀ i q, 0 < i → i < n → rg (fc (S' i).1 q) (g' i q)) (h : V M d pc L st n S' g' k z P) : V M d pc L st n S g k z P := by
  intro p l e R s m args below meth c b D dA Q C hq H locs ls hl hP hS
  refine h p l e R s m args below meth c b D dA Q C hq H locs ls hl ⟨hP.1, fun i h0 h1 => ?_, hr hP.2.2.1, by unfold Scr; simp only [hs0]; exact hP.2.2.2⟩ hS
  obtain ⟨e1, e2, e3, e4⟩ := hs i h0 h1
  unfold cel
  rw [e1, e2]
  rcases hP.2.1 i h0 h1 with q | q
  · exact Or.inl ⟨q.1, q.2.to (fun k _ => by rw [e3 q.1 k])⟩
  · refine Or.inr ⟨q.1, fun r => ?_⟩
    rw [q.2 r]
    simp only [e4 q.1]
end VRows4
