/-! CONSTRUCTORS: an array into a final field -/
def exS (S : Nat → Shp) (n : Nat) (x : Shp) : Nat → Shp := fun i => if i = n then x else S i
section Ctor
variable {M : MI} {d pc k z n : Nat} {L : List (Nat × Value)} {st : List Value} {S : Nat → Shp} {g : Hp} {P : Pst}
theorem st_na {atype : ArrayType} {t N a f ci idx : Nat} {ty : FieldType} (j1 j2 : Nat) (hd1 : M.2.2.2[j1]? = some (pc, .newarray atype, 2)) (hd2 : M.2.2.2[j2]? = some (pc + 2, .putfield idx, 3)) (hty : newarray.typeOf atype = ty) (ht : 12 ≤ t ∧ t < 20) (hat : ∀ dA : Nat → ClassId, (aty dA)[t - 12]? = some (dA t, ty)) (hra : ∀ (U : State) (cA : ClassId), va_RA U cA ty → U.vm.findClass ("[" ++ ty.toString) = some cA) (hac : Cond.arrayClass ty ∈ tbG) (hdf : ∀ b q, defaultValue ty = cv b (vA (fc t q) 0)) (hby : N * componentBytes ty ≤ 536870912) (hN : N ≤ 100000)
    (hf : FL M.1.2.1 idx ci f true (.array ty)) (ha : 0 < a ∧ a < n) (hs : S a = (ci, 0, fun _ => none)) (hc : ci < 12) (hfc : fc ci f = 2) (hin : M.1.1.name = "<init>") (hk : k + 1 ≤ M.2.2.1.1) (hz : z + N ≤ M.2.2.1.2)
    (h : ∀ (S' : Nat → Shp) (g' : Hp), (∀ i, i < n → S' i = S i) → S' n = (t, N, fun _ => none) → (∀ i q, i < n → ¬ (i = a ∧ q = f) → g' i q = g i q) → g' a f = (n : Int) → V M d (pc + 2 + 3) L st (n + 1) S' g' (k + 1) (z + N) P) : V M d pc L (I_ (N : Int) :: .ref a :: st) n S g k z P := by
  have e1 : ∀ i, i < n → exS S n (t, N, fun _ => none) i = S i := fun i hi => if_neg (by omega)
  refine v_newa (S' := exS S n (t, N, fun _ => none)) j1 hd1 hty ht hat hra hac hdf hby hN (by omega) e1 (if_pos rfl) hk hz ?_
  refine v_putFA j2 hd2 hf (by omega) (by rw [e1 a ha.2, hs]) hc hfc (by rw [e1 a ha.2, hs]) hin ?_
  refine h _ _ e1 (if_pos rfl) (fun i q h1 h2 => ?_) ?_
  · rw [show up2 (upr g n (fun _ => 0)) a f (n : Int) i q = upr g n (fun _ => 0) i q from if_neg h2]
    exact upr_ne (by omega)
  · exact if_pos ⟨rfl, rfl⟩
theorem st_an {t N a f ci idx idx' : Nat} {E : String} (j1 j2 : Nat) (hd1 : M.2.2.2[j1]? = some (pc, .anewarray idx', 3)) (hd2 : M.2.2.2[j2]? = some (pc + 3, .putfield idx, 3)) (hl : Cond.classLink M.1.2.1 idx' E ∈ tbG) (hao : ∀ U, KX U → va_AO E U) (ht : 12 ≤ t ∧ t < 20) (hat : ∀ dA : Nat → ClassId, (aty dA)[t - 12]? = some (dA t, .object E)) (hfc' : ∀ q, fc t q = 2) (hN : N ≤ 100000)
    (hf : FL M.1.2.1 idx ci f true (.array (.object E))) (ha : 0 < a ∧ a < n) (hs : S a = (ci, 0, fun _ => none)) (hc : ci < 12) (hfc : fc ci f = 2) (hin : M.1.1.name = "<init>") (hk : k + 1 ≤ M.2.2.1.1) (hz : z + N ≤ M.2.2.1.2)
    (h : ∀ (S' : Nat → Shp) (g' : Hp), (∀ i, i < n → S' i = S i) → S' n = (t, N, fun _ => none) → (∀ i q, i < n → ¬ (i = a ∧ q = f) → g' i q = g i q) → g' a f = (n : Int) → V M d (pc + 3 + 3) L st (n + 1) S' g' (k + 1) (z + N) P) : V M d pc L (I_ (N : Int) :: .ref a :: st) n S g k z P := by
  have e1 : ∀ i, i < n → exS S n (t, N, fun _ => none) i = S i := fun i hi => if_neg (by omega)
  refine v_anew (S' := exS S n (t, N, fun _ => none)) j1 hd1 hl hao ht hat hfc' hN (by omega) e1 (if_pos rfl) hk hz ?_
  refine v_putFA j2 hd2 hf (by omega) (by rw [e1 a ha.2, hs]) hc hfc (by rw [e1 a ha.2, hs]) hin ?_
  refine h _ _ e1 (if_pos rfl) (fun i q h1 h2 => ?_) ?_
  · rw [show up2 (upr g n (fun _ => 0)) a f (n : Int) i q = upr g n (fun _ => 0) i q from if_neg h2]
    exact upr_ne (by omega)
  · exact if_pos ⟨rfl, rfl⟩
end Ctor
/-- the cells from a on up to m lie as the table says: object a with its arrays behind it -/
def LYo (a m : Nat) (S0 : Nat → Shp) (g0 : Hp) (S : Nat → Shp) (g : Hp) : Prop :=
  (∀ i, i ≤ a → S i = S0 i) ∧ (∀ i q, i < a → g i q = g0 i q) ∧ (∀ i, a < i → i < m → S i = ((W0 (fun _ => (0, 0, fun _ => none)) i).1, (W0 (fun _ => (0, 0, fun _ => none)) i).2.1, fun _ => none)) ∧
  (∀ q, (∀ r : Int, (W0 (fun _ => (0, 0, fun _ => none)) a).2.2 q = some r → r < m → g a q = r) ∧ ((W0 (fun _ => (0, 0, fun _ => none)) a).2.2 q = none → g a q = g0 a q))
theorem LYo.step {a m f : Nat} {S0 S S' : Nat → Shp} {g0 g g' : Hp} {x : Shp} (h : LYo a m S0 g0 S g) (ham : a < m) (hS : ∀ i, i < m → S' i = S i) (hn : S' m = x) (hg : ∀ i q, i < m → ¬ (i = a ∧ q = f) → g' i q = g i q) (hf : g' a f = (m : Int)) (hx : ((W0 (fun _ => (0, 0, fun _ => none)) m).1, (W0 (fun _ => (0, 0, fun _ => none)) m).2.1, fun _ => none) = x) (hc : (W0 (fun _ => (0, 0, fun _ => none)) a).2.2 f = some (m : Int)) (hu : ∀ q, (W0 (fun _ => (0, 0, fun _ => none)) a).2.2 q = some (m : Int) → q = f) : LYo a (m + 1) S0 g0 S' g' := by
  obtain ⟨h1, h2, h3, h4⟩ := h
  refine ⟨fun i hi => (hS i (by omega)).trans (h1 i hi), fun i q hi => (hg i q (by omega) (by omega)).trans (h2 i q hi), fun i i1 i2 => ?_, fun q => ⟨fun r hr hlt => ?_, fun hq => ?_⟩⟩
  · by_cases c : i = m
    · subst c; rw [hn, ← hx]
    · rw [hS i (by omega)]; exact h3 i i1 (by omega)
  · by_cases c : q = f
    · subst c
      rw [hc] at hr
      rw [hf]; exact Option.some.inj hr
    · rw [hg a q ham (fun z => c z.2)]
      refine (h4 q).1 r hr ?_
      have : r ≠ (m : Int) := fun z => by
        rw [z] at hr
        exact c (hu q hr)
      omega
  · have c : q ≠ f := fun z => by rw [z, hc] at hq; cases hq
    rw [hg a q ham (fun z => c z.2)]
    exact (h4 q).2 hq
