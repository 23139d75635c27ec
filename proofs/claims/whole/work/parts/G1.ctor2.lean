/-! CONSTRUCTORS: the cells as they come to lie -/
def ctab : List (List (Option Int)) := [[], [some 2, some 3, some 0, some 0, some 4, some 6, some 9, some 10, some 11, some 18, some 36, some 0, some 37], [some 41, some 43, some 45, some 47, some 49, some 51], [], [some 5], [], [some 7, some 8], [], [], [], [], [some 12, some 13, none, some 14, none, some 15, some 16, some 17], [], [], [], [], [], [], [some 19, none, some 20, none, none, some 21, some 22, some 23, some 33, some 34, some 35], [], [], [], [], [some 24, some 25, some 26, some 27, some 28, some 29, some 30, some 31, some 32], [], [], [], [], [], [], [], [], [], [], [], [], [], [some 38, some 0, some 39, some 40], [], [], [], [some (-1), none, some 42], [], [some (-1), none, some 44], [], [some (-1), none, some 46], [], [some (-1), none, some 48], [], [some (-1), none, some 50], [], [some (-1), none, some 52], [], [some 0, none, some 54, some 55, some 56, some 0, some 57, some 58, some 59, some 60, some 61, some 62, some 63, some 64, some 65, some 66, some 67, some 68, some 69, some 70, some 71, some 72, some 73, some 74, some 75, some 76, some 0, some 77, some 78, some 0, some 79, some 80, none, none, none, none, some 81, some 82, some 83, some 84, some 85, none, none, some 86, some 87, some 88, some 89, some 90, some 91, some 92, some 93, none, some 94, some 95, some 96, some 97, some 98], [], [], [], [], [], [], [], [], [], [], [], [], [], [], [], [], [], [], [], [], [], [], [], [], [], [], [], [], [], [], [], [], [], [], [], [], [], [], [], [], [], [], [], [], [], []]
/-- what the slots hold at the end, as far as it matters -/
def cc (i q : Nat) : Option Int := (ctab.getD i []).getD q none
/-- the cells' shapes, with no slot held fast -/
def SK0 (i : Nat) : Shp := ((W0 (fun _ => (0, 0, fun _ => none)) i).1, (W0 (fun _ => (0, 0, fun _ => none)) i).2.1, fun _ => none)
def JJ (lo m : Nat) (g0 g : Hp) : Prop := (∀ i q, i < lo → g i q = g0 i q) ∧ ∀ (i q : Nat) (r : Int), lo ≤ i → i < m → cc i q = some r → r < (m : Int) → g i q = r
def ckb (lo c m m' f : Nat) : Bool := (List.range m).all fun i => (List.range 60).all fun q => decide (i < lo) || (match cc i q with
  | none => true
  | some r => decide (r < (m : Int) ∨ (m' : Int) ≤ r) || (decide (i = c) && decide (q = f) && decide (r = (m : Int))))
def ckz (a : Nat) : Bool := (List.range 60).all fun q => match cc a q with
  | none => true
  | some r => decide (r = 0 ∨ (a : Int) < r)
def ckn (a : Nat) : Bool := (List.range 60).all fun q => match cc a q with
  | none => true
  | some r => decide ((a : Int) < r)
set_option maxRecDepth 100000 in
theorem cc_len : ∀ i, i < 100 → (ctab.getD i []).length ≤ 60 := by decide +kernel
theorem cc_big {i q : Nat} {r : Int} (h : cc i q = some r) : q < 60 := by
  apply Classical.byContradiction
  intro c
  unfold cc at h
  by_cases hi : i < 100
  · have := cc_len i hi
    rw [List.getD_eq_getElem?_getD (l := ctab.getD i []), List.getElem?_eq_none (by omega)] at h
    cases h
  · have e : ctab.getD i [] = [] := by
      rw [List.getD_eq_getElem?_getD, List.getElem?_eq_none (by show 100 ≤ i; omega)]; rfl
    rw [e] at h
    cases h
theorem ckb_use {lo c m m' f : Nat} (h : ckb lo c m m' f = true) {i q : Nat} {r : Int} (h1 : lo ≤ i) (h2 : i < m) (h3 : cc i q = some r) (h4 : (m : Int) ≤ r) (h5 : r < (m' : Int)) : i = c ∧ q = f ∧ r = (m : Int) := by
  unfold ckb at h
  have := List.all_eq_true.mp (List.all_eq_true.mp h i (List.mem_range.mpr h2)) q (List.mem_range.mpr (cc_big h3))
  rw [h3] at this
  simp only [Bool.or_eq_true, Bool.and_eq_true, decide_eq_true_eq] at this
  rcases this with t | t | t
  · omega
  · omega
  · exact ⟨t.1.1, t.1.2, t.2⟩
theorem ckz_use {a : Nat} (h : ckz a = true) {q : Nat} {r : Int} (h3 : cc a q = some r) : r = 0 ∨ (a : Int) < r := by
  unfold ckz at h
  have := List.all_eq_true.mp h q (List.mem_range.mpr (cc_big h3))
  rw [h3] at this
  exact of_decide_eq_true this
theorem ckn_use {a : Nat} (h : ckn a = true) {q : Nat} {r : Int} (h3 : cc a q = some r) : (a : Int) < r := by
  unfold ckn at h
  have := List.all_eq_true.mp h q (List.mem_range.mpr (cc_big h3))
  rw [h3] at this
  exact of_decide_eq_true this
theorem JJ.sub {lo c m m' f : Nat} {g0 g g' : Hp} (h : JJ lo m g0 g) (hlo : lo ≤ c) (hcm : c < m) (e1 : ∀ i q, i < m → ¬ (i = c ∧ q = f) → g' i q = g i q) (e2 : g' c f = (m : Int)) (e3 : ∀ (i q : Nat) (r : Int), m ≤ i → i < m' → cc i q = some r → r < (m' : Int) → g' i q = r) (hc : cc c f = some (m : Int)) (hk : ckb lo c m m' f = true) : JJ lo m' g0 g' := by
  refine ⟨fun i q hi => (e1 i q (by omega) (by omega)).trans (h.1 i q hi), fun i q r h1 h2 h3 h4 => ?_⟩
  by_cases c1 : i < m
  · by_cases c2 : r < (m : Int)
    · rw [e1 i q c1 ?_]
      · exact h.2 i q r h1 c1 h3 c2
      · rintro ⟨rfl, rfl⟩
        rw [hc] at h3
        have := Option.some.inj h3
        omega
    · obtain ⟨rfl, rfl, rfl⟩ := ckb_use hk h1 c1 h3 (by omega) h4
      exact e2
  · exact e3 i q r (by omega) h2 h3 h4
theorem JJ.arr {lo c m f : Nat} {g0 g g' : Hp} (h : JJ lo m g0 g) (hlo : lo ≤ c) (hcm : c < m) (e1 : ∀ i q, i < m → ¬ (i = c ∧ q = f) → g' i q = g i q) (e2 : g' c f = (m : Int)) (hc : cc c f = some (m : Int)) (hk : ckb lo c m (m + 1) f = true) (hn : ckn m = true) : JJ lo (m + 1) g0 g' :=
  h.sub hlo hcm e1 e2 (fun i q r h1 h2 h3 h4 => by
    obtain rfl : i = m := by omega
    have := ckn_use hn h3
    omega) hc hk
theorem JJ.ctor {lo c m m' f : Nat} {g0 g g' : Hp} (h : JJ lo m g0 g) (hs : JJ m m' (upr g m (fun _ => 0)) g') (hlo : lo ≤ c) (hcm : c < m) (hc : cc c f = some (m : Int)) (hk : ckb lo c m m' f = true) : JJ lo m' g0 (up2 g' c f (m : Int)) := by
  refine h.sub hlo hcm (fun i q hi hn => ?_) (if_pos ⟨rfl, rfl⟩) (fun i q r h1 h2 h3 h4 => ?_) hc hk
  · rw [show up2 g' c f (m : Int) i q = g' i q from if_neg hn, hs.1 i q hi]
    exact upr_ne (by omega)
  · rw [show up2 g' c f (m : Int) i q = g' i q from if_neg (by omega)]
    exact hs.2 i q r h1 h2 h3 h4
theorem JJ.put {lo c m q : Nat} {g0 g : Hp} {v : Int} (h : JJ lo m g0 g) (hlo : lo ≤ c) (e : ∀ r, cc c q = some r → v = r) : JJ lo m g0 (up2 g c q v) := by
  refine ⟨fun i k hi => ?_, fun i k r h1 h2 h3 h4 => ?_⟩
  · rw [show up2 g c q v i k = g i k from if_neg (by omega)]; exact h.1 i k hi
  · by_cases c1 : i = c ∧ k = q
    · obtain ⟨rfl, rfl⟩ := c1
      rw [show up2 g i k v i k = v from if_pos ⟨rfl, rfl⟩]
      exact e r h3
    · rw [show up2 g c q v i k = g i k from if_neg c1]
      exact h.2 i k r h1 h2 h3 h4
theorem JJ.zero {a : Nat} {g : Hp} (hz : ∀ q, g a q = 0) (hk : ckz a = true) : JJ a (a + 1) g g := by
  refine ⟨fun _ _ _ => rfl, fun i q r h1 h2 h3 h4 => ?_⟩
  obtain rfl : i = a := by omega
  rw [hz q]
  rcases ckz_use hk h3 with e | e
  · exact e.symm
  · omega
theorem cput {i q : Nat} {v : Int} {o : Option Int} (h : cc i q = o) (e : o = none ∨ o = some v) : ∀ r, cc i q = some r → v = r := fun r hr => by
  rw [h] at hr
  rcases e with e | e
  · rw [e] at hr; cases hr
  · rw [e] at hr; exact Option.some.inj hr
section Ctor2
variable {M : MI} {d pc k z n : Nat} {L : List (Nat × Value)} {st : List Value} {S : Nat → Shp} {g : Hp} {P : Pst}
theorem st_nc {atype : ArrayType} {t N a f ci idx : Nat} {ty : FieldType} (j1 j2 : Nat) (hd1 : M.2.2.2[j1]? = some (pc, .newarray atype, 2)) (hd2 : M.2.2.2[j2]? = some (pc + 2, .putfield idx, 3)) (hty : newarray.typeOf atype = ty) (ht : 12 ≤ t ∧ t < 20) (hat : ∀ dA : Nat → ClassId, (aty dA)[t - 12]? = some (dA t, ty)) (hra : ∀ (U : State) (cA : ClassId), va_RA U cA ty → U.vm.findClass ("[" ++ ty.toString) = some cA) (hac : Cond.arrayClass ty ∈ tbG) (hdf : ∀ b q, defaultValue ty = cv b (vA (fc t q) 0)) (hby : N * componentBytes ty ≤ 536870912) (hN : N ≤ 100000)
    (hf : FL M.1.2.1 idx ci f true (.array ty)) (ha : 0 < a ∧ a < n) (hs : S a = (ci, 0, fun _ => none)) (hn : S n = (t, N, fun _ => none)) (hc : ci < 12) (hfc : fc ci f = 2) (hin : M.1.1.name = "<init>") (hk : k + 1 ≤ M.2.2.1.1) (hz : z + N ≤ M.2.2.1.2)
    (h : ∀ (g' : Hp), (∀ i q, i < n → ¬ (i = a ∧ q = f) → g' i q = g i q) → g' a f = (n : Int) → V M d (pc + 2 + 3) L st (n + 1) S g' (k + 1) (z + N) P) : V M d pc L (I_ (N : Int) :: .ref a :: st) n S g k z P := by
  refine v_newa (S' := S) j1 hd1 hty ht hat hra hac hdf hby hN (by omega) (fun _ _ => rfl) hn hk hz ?_
  refine v_putFA j2 hd2 hf (by omega) (by rw [hs]) hc hfc (by rw [hs]) hin ?_
  refine h _ (fun i q h1 h2 => ?_) (if_pos ⟨rfl, rfl⟩)
  rw [show up2 (upr g n (fun _ => 0)) a f (n : Int) i q = upr g n (fun _ => 0) i q from if_neg h2]
  exact upr_ne (by omega)
theorem st_ac {t N a f ci idx idx' : Nat} {E : String} (j1 j2 : Nat) (hd1 : M.2.2.2[j1]? = some (pc, .anewarray idx', 3)) (hd2 : M.2.2.2[j2]? = some (pc + 3, .putfield idx, 3)) (hl : Cond.classLink M.1.2.1 idx' E ∈ tbG) (hao : ∀ U, KX U → va_AO E U) (ht : 12 ≤ t ∧ t < 20) (hat : ∀ dA : Nat → ClassId, (aty dA)[t - 12]? = some (dA t, .object E)) (hfc' : ∀ q, fc t q = 2) (hN : N ≤ 100000)
    (hf : FL M.1.2.1 idx ci f true (.array (.object E))) (ha : 0 < a ∧ a < n) (hs : S a = (ci, 0, fun _ => none)) (hn : S n = (t, N, fun _ => none)) (hc : ci < 12) (hfc : fc ci f = 2) (hin : M.1.1.name = "<init>") (hk : k + 1 ≤ M.2.2.1.1) (hz : z + N ≤ M.2.2.1.2)
    (h : ∀ (g' : Hp), (∀ i q, i < n → ¬ (i = a ∧ q = f) → g' i q = g i q) → g' a f = (n : Int) → V M d (pc + 3 + 3) L st (n + 1) S g' (k + 1) (z + N) P) : V M d pc L (I_ (N : Int) :: .ref a :: st) n S g k z P := by
  refine v_anew (S' := S) j1 hd1 hl hao ht hat hfc' hN (by omega) (fun _ _ => rfl) hn hk hz ?_
  refine v_putFA j2 hd2 hf (by omega) (by rw [hs]) hc hfc (by rw [hs]) hin ?_
  refine h _ (fun i q h1 h2 => ?_) (if_pos ⟨rfl, rfl⟩)
  rw [show up2 (upr g n (fun _ => 0)) a f (n : Int) i q = upr g n (fun _ => 0) i q from if_neg h2]
  exact upr_ne (by omega)
theorem v_getRe {a ci kf idx r : Nat} {fin : Bool} {ty : FieldType} (j : Nat) (hd : M.2.2.2[j]? = some (pc, .getfield idx, 3)) (hf : FL M.1.2.1 idx ci kf fin ty) (ha : 0 < a ∧ a < n) (hs : (S a).1 = ci) (hc : ci < 12) (ht : fc ci kf = 2) (hk : (S a).2.2 kf = none) (he : g a kf = (r : Int)) (h : V M d (pc + 3) L (.ref r :: st) n S g k z P) : V M d pc L (.ref a :: st) n S g k z P := by
  refine v_getR j hd hf ha hs hc ht hk ?_
  rw [he, Int.toNat_natCast]
  exact h
end Ctor2
theorem ac12 : Cond.arrayClass .byte ∈ tbG := tbG_in (List.mem_append_right _ (List.mem_of_getElem? (i := 196) (by decide +kernel))) rfl
theorem ac13 : Cond.arrayClass .int ∈ tbG := tbG_in (List.mem_append_right _ (List.mem_of_getElem? (i := 69) (by decide +kernel))) rfl
theorem ac14 : Cond.arrayClass .long ∈ tbG := tbG_in (List.mem_append_right _ (List.mem_of_getElem? (i := 129) (by decide +kernel))) rfl
theorem ac15 : Cond.arrayClass .boolean ∈ tbG := tbG_in (List.mem_append_right _ (List.mem_of_getElem? (i := 1302) (by decide +kernel))) rfl
