/-! THE LAW: rows -/
/-- the law's locals in its loop -/
def LW (A : Nat) (i : Int) : List (Nat × Value) := [(0, .retAddr A), (1, .ref 1), (2, .ref 53), (3, .ref 99), (4, I_ i)]
/-- the script: where it lies, its length, its ints -/
def Sq (A : Nat) (N : Int) (w : Nat → Int) (g : Hp) : Prop := (g 0 0).toNat = A ∧ g 0 1 = N ∧ ∀ q, g 0 (2 + q) = w q
theorem Sq.to {A : Nat} {N : Int} {w : Nat → Int} {g g' : Hp} (h : Sq A N w g) (e : ∀ q, g' 0 q = g 0 q) : Sq A N w g' := ⟨by rw [e]; exact h.1, by rw [e]; exact h.2.1, fun q => by rw [e]; exact h.2.2 q⟩
theorem Sq.kr {A : Nat} {N : Int} {w : Nat → Int} {g g' : Hp} (h : Sq A N w g) (e : Kr g g') : Sq A N w g' := h.to (fun q => e 0 q (Or.inl rfl))
theorem Sq.kc {A : Nat} {N : Int} {w : Nat → Int} {g g' : Hp} (h : Sq A N w g) (e : Kc g g') : Sq A N w g' := h.to (fun q => e 0 q (Or.inl (by decide)))
theorem Kr.rz_ {g g' : Hp} (h : Kr g g') : rz g' = rz g := by
  funext i q
  unfold rz
  cases e : rl i q with
  | false => rfl
  | true =>
    show g' i q = g i q
    refine h i q (Or.inr ?_)
    unfold rl at e
    simp only [Bool.or_eq_true, Bool.and_eq_true, Nat.ble_eq, Nat.beq_eq] at e
    omega
theorem zz1 {g g1 : Hp} (h : Kr g g1) : rz (up2 g1 53 1 0) = rz g := (rz_sk rfl).trans h.rz_
theorem zz2 {g g1 : Hp} (h : Kr g g1) : rz (up2 (up2 g1 53 1 0) 53 0 0) = rz (up2 g 53 0 0) := by
  rw [rz_up (g := up2 g1 53 1 0) (i := 53) (k := 0) rfl, rz_up (g := g) (i := 53) (k := 0) rfl, zz1 h]
theorem kk1 (g1 : Hp) : Kc g1 (up2 g1 53 1 0) := (Kc.refl g1).up (by omega)
theorem kk2 (g1 : Hp) : Kc g1 (up2 (up2 g1 53 1 0) 53 0 0) := (kk1 g1).up (by omega)
section LawSteps
variable {n : Nat} {dy : Nat → Shp} {op : Hp → Int × Hp} {g g1 g2 a' b' : Hp} {v v' : Int}
/-- one step, where the class and the reference start it with status 0 -/
theorem ja (hcg : ∀ g g1 : Hp, rz g1 = rz g → (op g1).1 = (op g).1 ∧ rz (op g1).2 = rz (op g).2) (hkc : ∀ g, Kc g (op g).2) (hinv : ∀ a, Inv a → Inv (op a).2) (hI : Inv g) (hK : Kr g g1) (e : op (up2 g 53 0 0) = (v, a')) (hC : Ca n dy g1 a') (e2 : op (up2 (up2 g1 53 1 0) 53 0 0) = (v', g2)) : v' = v ∧ Inv g2 ∧ Ca n dy g2 g2 ∧ Kc g1 g2 := by
  have hI' := hinv _ (hI.st 0)
  rw [e] at hI'
  exact jn hcg hkc (zz2 hK) (kk2 g1) e e2 hC hI'
theorem jb (hcg : ∀ g g1 : Hp, rz g1 = rz g → (op g1).1 = (op g).1 ∧ rz (op g1).2 = rz (op g).2) (hkc : ∀ g, Kc g (op g).2) (hinv : ∀ a, Inv a → Inv (op a).2) (hI : Inv g) (hK : Kr g g1) (e : op g = (v, a')) (hC : Ca n dy g1 a') (e2 : op (up2 g1 53 1 0) = (v', g2)) : v' = v ∧ Inv g2 ∧ Ca n dy g2 g2 ∧ Kc g1 g2 := by
  have hI' := hinv _ hI
  rw [e] at hI'
  exact jn hcg hkc (zz1 hK) (kk1 g1) e e2 hC hI'
theorem jc (hcg : ∀ g g1 : Hp, rz g1 = rz g → (op g1).1 = (op g).1 ∧ rz (op g1).2 = rz (op g).2) (hinv : ∀ a, Inv a → Inv (op a).2) (hI : Inv g) (hK : Kr g g1) (e : op (up2 g 53 0 0) = (v, a')) (hC : Ca n dy g1 a') (e2 : op (up2 (up2 g1 53 1 0) 53 0 0) = (v', b')) (hb : rz g2 = rz b') (hk2 : Kc (up2 (up2 g1 53 1 0) 53 0 0) g2) : v' = v ∧ Inv g2 ∧ Ca n dy g2 g2 ∧ Kc g1 g2 := by
  have hI' := hinv _ (hI.st 0)
  rw [e] at hI'
  exact jn2 hcg (zz2 hK) (kk2 g1) e e2 hb hk2 hC hI'
theorem jd (hcg : ∀ g g1 : Hp, rz g1 = rz g → (op g1).1 = (op g).1 ∧ rz (op g1).2 = rz (op g).2) (hinv : ∀ a, Inv a → Inv (op a).2) (hI : Inv g) (hK : Kr g g1) (e : op g = (v, a')) (hC : Ca n dy g1 a') (e2 : op (up2 g1 53 1 0) = (v', b')) (hb : rz g2 = rz b') (hk2 : Kc (up2 g1 53 1 0) g2) : v' = v ∧ Inv g2 ∧ Ca n dy g2 g2 ∧ Kc g1 g2 := by
  have hI' := hinv _ hI
  rw [e] at hI'
  exact jn2 hcg (zz1 hK) (kk1 g1) e e2 hb hk2 hC hI'
theorem Inv.kr (hI : Inv g) (hK : Kr g g1) : Inv g1 := hI.cg hK.rz_
theorem Inv.rf (hI : Inv g) : RF g := ⟨hI.1, hI.dp⟩
theorem Inv.t16 (hI : Inv g) : ∀ t : Nat, t < 6 → g 55 t ≤ 16 := fun t ht => by
  rcases hI.2.1 t ht with c | c <;> omega
theorem Inv.t16s (hI : Inv g) : ∀ t : Nat, t < 6 → g 55 t ≤ 16 ∧ (0 ≤ g 55 t → i3 (g 54 t)) := fun t ht => by
  refine ⟨hI.t16 t ht, fun c => ?_⟩
  rcases hI.2.1 t ht with c' | c'
  · omega
  · unfold i3; omega
end LawSteps
section LawRows
variable {M : MI} {d pc n k z : Nat} {L : List (Nat × Value)} {st : List Value} {S : Nat → Shp} {g : Hp} {P : Pst} {A : Nat} {N i : Int} {w : Nat → Int}
theorem l_arg {c : Int} (j : Nat) (hd1 : M.2.2.2[j]? = some (pc, .aload_n 0, 1)) (hd2 : M.2.2.2[j + 1]? = some (pc + 1, .iload 4, 2)) (hd3 : M.2.2.2[j + 2]? = some (pc + 1 + 2, .iconst c, 1)) (hd4 : M.2.2.2[j + 3]? = some (pc + 1 + 2 + 1, .iadd, 1)) (hd5 : M.2.2.2[j + 4]? = some (pc + 1 + 2 + 1 + 1, .iaload, 1)) (hs : Sq A N w g) (hx : 0 ≤ i + c ∧ i + c < N)
    (h : V M d (pc + 1 + 2 + 1 + 1 + 1) (LW A i) (I_ (w (i + c).toNat) :: st) n S g k z P) : V M d pc (LW A i) st n S g k z P := by
  refine v_aloadS (a := A) j 0 hd1 rfl rfl ?_
  refine v_iload (j + 1) 4 hd2 rfl ?_
  refine v_iconst (j + 2) hd3 ?_
  refine v_iadd (j + 3) hd4 ?_
  obtain ⟨h1, h2, h3⟩ := hs
  rw [← h1]
  refine v_sld (j + 4) hd5 (by rw [h2]; exact hx) ?_
  rw [h3, h1]
  exact h
theorem l_bool {x : Int} (j : Nat) (hd1 : M.2.2.2[j]? = some (pc, .ifCond .eq 7, 3)) (hd2 : M.2.2.2[j + 1]? = some (pc + 3, .iconst 1, 1)) (hd3 : M.2.2.2[j + 2]? = some (pc + 3 + 1, .goto 4, 3)) (hd4 : M.2.2.2[j + 3]? = some (pc + 7, .iconst 0, 1)) (hx : i3 x) (h : V M d (pc + 8) L (I_ (if x = 0 then 0 else 1) :: st) n S g k z P) : V M d pc L (I_ x :: st) n S g k z P := by
  refine v_if_eq (tgt := pc + 7) j hd1 (by omega) hx (fun e => ?_) (fun e => ?_)
  · rw [if_pos e] at h
    exact v_iconst (j + 3) hd4 h
  · rw [if_neg e] at h
    exact v_iconst (j + 1) hd2 (v_goto (tgt := pc + 8) (j + 2) hd3 (by omega) h)
theorem v_ieq_same {x : Int} {off : Int} {tgt : Nat} (j : Nat) (hd : M.2.2.2[j]? = some (pc, .if_icmp .eq off, 3)) (ht : (pc : Int) + off = (tgt : Int)) (h1 : V M d tgt L st n S g k z P) : V M d pc L (I_ x :: I_ x :: st) n S g k z P :=
  fun p l e R s m args below meth c b D dA Q C hq H locs ls hl hP hS => lv_icmp_eq C.1 C.2.1 (C.dec hd) ht (fun _ => h1 p l e R s m args below meth c b D dA Q C hq H locs ls hl hP hS) (fun q => absurd rfl q)
theorem v_leq_same {x : Int} {off : Int} {tgt : Nat} (j : Nat) (hd : M.2.2.2[j]? = some (pc, .lcmp, 1)) (hd2 : M.2.2.2[j + 1]? = some (pc + 1, .ifCond .eq off, 3)) (ht : ((pc + 1 : Nat) : Int) + off = (tgt : Int)) (h1 : V M d tgt L st n S g k z P) : V M d pc L (L_ x :: L_ x :: st) n S g k z P := by
  have e : L_ x = L_ (Int64.ofInt x).toInt := by
    show Value.long _ = Value.long _
    rw [Int64.ofInt_toInt]
  rw [e]
  exact v_lif_eq j hd hd2 ht (i6_toInt _) (i6_toInt _) (fun _ => h1) (fun q => absurd rfl q)
end LawRows
/-- what the law goes on with -/
def Nx (D : Nat) (P : Pst) (A : Nat) (N : Int) (w : Nat → Int) (i : Int) (k z : Nat) : Prop := ∀ (n' : Nat) (dy' : Nat → Shp) (g' : Hp) (k' z' : Nat), Inv g' → Ca n' dy' g' g' → Sq A N w g' → k' ≤ k + 1 → z' ≤ z + 16 → V miL_law D 1519 (LW A i) [] n' (W0 dy') g' k' z' P
