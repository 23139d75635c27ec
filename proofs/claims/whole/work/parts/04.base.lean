/-! THE ABSTRACT HEAP: cells 1, 2 .. n-1 lie at b + 1, b + 2 ..; what a cell holds is a row of Ints (a reference: the cell's number, 0 is null) -/
abbrev I_ (x : Int) : Value := .int (Int32.ofInt x)
abbrev L_ (x : Int) : Value := .long (Int64.ofInt x)
abbrev i3 (x : Int) : Prop := -2147483648 ≤ x ∧ x ≤ 2147483647
abbrev i6 (x : Int) : Prop := -9223372036854775808 ≤ x ∧ x ≤ 9223372036854775807
/-- an abstract value, seen from b; retAddr: an address of its own -/
def cv (b : Nat) (v : Value) : Value := match v with
  | .ref 0 => .null
  | .ref (i + 1) => .ref (b + (i + 1))
  | .retAddr a => .ref a
  | v => v
/-- what a slot of kind t (0 int, 1 long, 2 reference) holds -/
def vA (t : Nat) (x : Int) : Value := match t with
  | 0 => I_ x
  | 1 => L_ x
  | _ => .ref x.toNat
def rg (t : Nat) (x : Int) : Prop := match t with
  | 0 => i3 x
  | 1 => i6 x
  | _ => 0 ≤ x
abbrev Shp : Type := Nat × Nat × (Nat → Option Int)
abbrev Hp : Type := Nat → Nat → Int
/-- kinds 0 to 11 are the classes, 12 byte[], 13 int[], 14 long[], 15 boolean[], 16 Part[], 17 Rod[], 18 Tray[], 19 int[][] -/
def ftab : List (List Nat) := [[2, 2, 0, 2, 0, 2, 2, 2, 0, 0, 0], [2, 0, 1], [2, 0, 2, 0, 0, 2, 2, 2, 2, 2, 2], [0, 0, 0, 2, 0, 0, 1, 0, 1, 1, 1, 1, 1, 1], [2, 2, 0], [0, 0, 0, 2, 0, 0, 1, 0, 1, 1, 0, 0, 0, 0, 2, 2], [0, 0, 0], [2, 0, 2, 2, 0], [0, 0, 2], [0, 0, 0, 2, 0, 0, 1, 0, 1, 1], [2, 2, 0, 0, 2, 2, 2, 2, 2, 2, 2, 0, 2], [0, 0, 2, 2, 2, 0, 2, 2, 2, 2, 2, 2, 2, 2, 2, 2, 2, 2, 2, 2, 2, 2, 2, 2, 2, 2, 0, 2, 2, 0, 2, 2, 0, 0, 0, 0, 2, 2, 2, 2, 2, 0, 0, 2, 2, 2, 2, 2, 2, 2, 2, 0, 2, 2, 2, 2, 2, 0]]
def fc (t k : Nat) : Nat := if t < 12 then (ftab.getD t []).getD k 0 else if t = 14 then 1 else if t < 16 then 0 else 2
def nf (t : Nat) : Nat := ([11, 3, 11, 14, 3, 16, 3, 5, 3, 10, 13, 58] : List Nat).getD t 0
def gv (S : Nat → Shp) (g : Hp) (i k : Nat) : Int := match (S i).2.2 k with
  | some v => v
  | none => g i k
def up2 (g : Hp) (i k : Nat) (x : Int) : Hp := fun j q => if j = i ∧ q = k then x else g j q
def upr (g : Hp) (i : Nat) (r : Nat → Int) : Hp := fun j q => if j = i then r q else g j q
def aty (dA : Nat → ClassId) : List (ClassId × FieldType) := [(dA 12, .byte), (dA 13, .int), (dA 14, .long), (dA 15, .boolean), (dA 16, .object "MobileMaker$Part"), (dA 17, .object "MobileMaker$Rod"), (dA 18, .object "MobileMaker$Tray"), (dA 19, .array .int)]
def cel (D : va_G) (dA : Nat → ClassId) (b : Nat) (S : Nat → Shp) (g : Hp) (i : Nat) (H : Heap) : Prop :=
  ((S i).1 < 12 ∧ t_OB (b + i) (D.1 (S i).1) (nf (S i).1) (D.2 (S i).1) H (fun k => cv b (vA (fc (S i).1 k) (gv S g i k)))) ∨
  (12 ≤ (S i).1 ∧ ((S i).1 < 20 → H[b + i]? = some (arrV (dA (S i).1) (S i).2.1 (fun j => cv b (vA (fc (S i).1 j) (g i j))))))
/-- the script: row 0 of g has its address, its length, then its ints -/
def SC (o : Option Cell) (c : ClassId) (L : Nat) (f : Nat → Int) : Prop := ∃ scr : Cell, o = some scr ∧ scr.cls = c ∧ (∀ k, scr.vm ≠ .statics k) ∧ scr.vm ≠ .unknown ∧ scr.slots.size = L ∧ ∀ j, j < L → scr.slots[j]? = some (I_ (f j))
def Scr (dA : Nat → ClassId) (b : Nat) (g : Hp) (H : Heap) : Prop := (g 0 0).toNat ≤ b ∧ SC H[(g 0 0).toNat]? (dA 20) (g 0 1).toNat (fun j => g 0 (2 + j)) ∧ (0 ≤ g 0 1 ∧ g 0 1 ≤ 3072) ∧ ∀ j, i3 (g 0 (2 + j))
/-- the class of the script -/
def SAk (c : ClassId) (U : State) : Prop := ∃ k, U.vm.classes[c]? = some k ∧ ∃ comp, k.kind = .array comp .int
theorem SAk.moved {c : ClassId} {u U : State} (hvm : u.vm.Alike U.vm) (h : SAk c u) : SAk c U := by
  obtain ⟨k, h1, comp, h2⟩ := h
  obtain ⟨k', hk', he⟩ := hvm.2.2 _ _ h1
  exact ⟨k', hk', comp, by rw [he]; exact h2⟩
def Pic (D : va_G) (dA : Nat → ClassId) (b n : Nat) (S : Nat → Shp) (g : Hp) (H : Heap) : Prop :=
  H.size = b + n ∧ (∀ i, 0 < i → i < n → cel D dA b S g i H) ∧ (∀ i k, 0 < i → i < n → rg (fc (S i).1 k) (g i k)) ∧ Scr dA b g H
/-- words of the tables that are moved one by one -/
def castl : List (String × String) := [("MobileMaker$Rod", "MobileMaker$Part"), ("MobileMaker$Weight", "MobileMaker$Part"), ("MobileMaker$Plate", "MobileMaker$Part")]
def nestl : List (String × Nat × MethodName) := [("MobileMaker", 30, yX1_init), ("MobileMaker", 37, yX5_init), ("MobileMaker", 44, yX7_init), ("MobileMaker", 54, yX0_init), ("MobileMaker", 61, yX3_init), ("MobileMaker", 75, yX8_init), ("MobileMaker", 80, yX9_init), ("MobileMaker$Plate", 21, yX11_commonDivisor), ("MobileMaker$Rod", 64, yX11_commonDivisor), ("MobileMaker$Mobile", 85, yX11_asRod), ("MobileMaker$Parting", 106, yX11_asRod), ("MobileMaker$Text", 72, yX11_asRod)]
def va_AI (U : State) : Prop := (Cond.arrayOver (.array .int)).before #[] U = true
theorem va_AI.moved {u U : State} (hvm : u.vm.Alike U.vm) (h : va_AI u) : va_AI U := by
  unfold va_AI Cond.before Cond.holds at h ⊢
  simp only [Cond.value] at h ⊢
  rw [hvm.findClass]
  cases e1 : u.vm.findClass (FieldType.array .int).toString with
  | none => rw [e1] at h; exact h
  | some comp =>
    rw [e1, Option.bind_some] at h
    rw [Option.bind_some]
    have hb : U.vm.bare = u.vm.bare := by first | exact hvm.bare_eq | exact hvm.bare_eq.symm
    have hb2 : (U.vm.bare.classes.findIdx? fun (x : Class) => match x.kind with | .array component _ => component == comp | _ => false) = (u.vm.bare.classes.findIdx? fun (x : Class) => match x.kind with | .array component _ => component == comp | _ => false) := by rw [hb]
    have hi : (U.vm.classes.findIdx? fun (x : Class) => match x.kind with | .array component _ => component == comp | _ => false) = (u.vm.classes.findIdx? fun (x : Class) => match x.kind with | .array component _ => component == comp | _ => false) := (va_idx_bare U.vm comp).symm.trans (hb2.trans (va_idx_bare u.vm comp))
    refine (congrArg (fun o : Option Nat => (o.bind (fun c => (U.vm.classes[c]?).map fun (k : Class) => match k.kind with | .array _ ty => decide (ty = FieldType.array .int) && decide (U.vm.findClass ("[" ++ (FieldType.array .int).toString) = some c) | _ => false) == some true)) hi).trans ?_
    have h' : (((u.vm.classes.findIdx? fun (x : Class) => match x.kind with | .array component _ => component == comp | _ => false).bind (fun c => (u.vm.classes[c]?).map fun (k : Class) => match k.kind with | .array _ ty => decide (ty = FieldType.array .int) && decide (u.vm.findClass ("[" ++ (FieldType.array .int).toString) = some c) | _ => false)) == some true) = true := h
    generalize (u.vm.classes.findIdx? fun (x : Class) => match x.kind with | .array component _ => component == comp | _ => false) = o at h' ⊢
    cases o with
    | none => exact h'
    | some c =>
      rw [Option.bind_some] at h'
      show ((some c).bind _ == some true) = true
      rw [Option.bind_some]
      cases e3 : u.vm.classes[c]? with
      | none => rw [e3] at h'; cases h'
      | some k =>
        obtain ⟨k', hk', he⟩ := hvm.2.2 _ _ e3
        have hk : k'.kind = k.kind := by rw [he]
        rw [e3] at h'
        rw [hk', Option.map_some, hk, hvm.findClass]
        exact h'
def KX (U : State) : Prop := (∀ q ∈ castl, va_Nw (.castable q.1 q.2) U) ∧ (∀ q ∈ nestl, va_Nw (.methodLinkNest q.1 q.2.1 q.2.2 "MobileMaker") U) ∧ va_AO "MobileMaker$Part" U ∧ va_AO "MobileMaker$Rod" U ∧ va_AO "MobileMaker$Tray" U ∧ va_AI U
theorem KX.warm {s U : State} (hW : s.WarmedH U.vm) (h : KX s) : KX U := ⟨fun q hq => (h.1 q hq).warmC hW, fun q hq => (h.2.1 q hq).warmM hW, h.2.2.1.moved hW.alike, h.2.2.2.1.moved hW.alike, h.2.2.2.2.1.moved hW.alike, h.2.2.2.2.2.moved hW.alike⟩
theorem KX.same {s U : State} (hv : s.vm = U.vm) (h : KX s) : KX U := ⟨fun q hq => (h.1 q hq).same rfl hv, fun q hq => (h.2.1 q hq).same rfl hv, h.2.2.1.moved (hv ▸ Vm.Alike.refl s.vm), h.2.2.2.1.moved (hv ▸ Vm.Alike.refl s.vm), h.2.2.2.2.1.moved (hv ▸ Vm.Alike.refl s.vm), h.2.2.2.2.2.moved (hv ▸ Vm.Alike.refl s.vm)⟩
/-- what the tables say of the classes -/
def KK (D : va_G) (dA : Nat → ClassId) (U : State) : Prop := va_K D vwCl (aty dA) U ∧ (va_Nc "MobileMaker$Weight" "MobileMaker$Rod" U ∧ va_Nc "MobileMaker$Plate" "MobileMaker$Rod" U) ∧ (va_Nc "MobileMaker$Weight" "MobileMaker$Plate" U ∧ SAk (dA 20) U) ∧ va_Nc "MobileMaker$Rod" "MobileMaker$Plate" U ∧ KX U
theorem KK.warm {D : va_G} {dA : Nat → ClassId} {u U : State} (hW : u.WarmedH U.vm) (h : KK D dA u) : KK D dA U := ⟨va_K.moved hW.alike h.1, ⟨h.2.1.1.moved hW.alike, h.2.1.2.moved hW.alike⟩, ⟨h.2.2.1.1.moved hW.alike, h.2.2.1.2.moved hW.alike⟩, h.2.2.2.1.moved hW.alike, h.2.2.2.2.warm hW⟩
theorem KK.same {D : va_G} {dA : Nat → ClassId} {u U : State} (hv : u.vm = U.vm) (h : KK D dA u) : KK D dA U := by
  have hA : u.vm.Alike U.vm := hv ▸ Vm.Alike.refl u.vm
  exact ⟨va_K.moved hA h.1, ⟨h.2.1.1.moved hA, h.2.1.2.moved hA⟩, ⟨h.2.2.1.1.moved hA, h.2.2.1.2.moved hA⟩, h.2.2.2.1.moved hA, h.2.2.2.2.same hv⟩
/-- a method: name, its class, bytes; locals, what it returns; cells and slots that it may make; its instructions -/
abbrev MI : Type := (MethodName × String × ByteArray) × (Nat × Option FieldType) × (Nat × Nat) × List (Nat × Instr × Nat)
abbrev Pst : Type := Option Value → Nat → (Nat → Shp) → Hp → Prop
def rop (v : Option Value) : Instr := match v with
  | none => .return_
  | some (.int _) => .ireturn
  | some (.long _) => .lreturn
  | some _ => .areturn
def rok (r : Option FieldType) (v : Option Value) : Prop := match r, v with
  | none, none => True
  | some .int, some (.int _) => True
  | some .boolean, some (.int x) => x = 0 ∨ x = 1
  | some .long, some (.long _) => True
  | some (.object _), some (.ref _) => True
  | _, _ => False
/-- what holds since the law's entry: the launch writes no stack traces; the cells that were there then are as they were -/
def GG (l : Launch) (b : Nat) (s : State) : Prop := l.stackTraces = false ∧ ∃ (s0 : State) (a0 : Array Value), (∀ w ∈ lw_tbl, w.before a0 s0 = true) ∧ (Jvm.Cond.and given_1 narrow_1).before a0 s0 = true ∧ s0.heap.size = b + 1 ∧ s0.WarmedH s.vm ∧ ∀ q : Nat, q < b + 1 → s.heap[q]? = s0.heap[q]?
def Ctx (l : Launch) (M : MI) (d : Nat) (p : Program) (R : Room) (s : State) (m : MethodId) (args : Array Value) (meth : Method) (c : Code) (b : Nat) (D : va_G) (dA : Nat → ClassId) : Prop :=
  p.tables.exec = Jvm.exec ∧ c.code = M.1.2.2 ∧ c.maxLocals = M.2.1.1 ∧ s.vm.findClass M.1.2.1 = some m.cls ∧ (∀ w ∈ tbG, w.before args s = true) ∧ KK D dA s ∧ (b < s.heap.size ∧ GG l b s) ∧ meth.name = M.1.1.name ∧ (d ≤ R.frames ∧ 64 * d ≤ R.locals ∧ M.2.2.1.1 ≤ R.cells ∧ M.2.2.1.2 ≤ R.slots) ∧ ∀ q ∈ M.2.2.2, decode M.1.2.2 q.1 = .ok q.2
abbrev AA (b : Nat) : Nat → Prop := fun q => b < q
abbrev lmap (b : Nat) (L : List (Nat × Value)) : List (Nat × Value) := L.map (fun q => (q.1, cv b q.2))
def V (M : MI) (d pc : Nat) (L : List (Nat × Value)) (st : List Value) (n : Nat) (S : Nat → Shp) (g : Hp) (k z : Nat) (P : Pst) : Prop :=
  ∀ (p : Program) (l : Launch) (e : Env) (R : Room) (s : State) (m : MethodId) (args : Array Value) (below : List Frame) (meth : Method) (c : Code) (b : Nat) (D : va_G) (dA : Nat → ClassId) (Q : State → Prop),
    Ctx l M d p R s m args meth c b D dA →
    (∀ (v : Option Value) (n' : Nat) (S' : Nat → Shp) (g' : Hp), P v n' S' g' → rok M.2.1.2 v → ∀ (H : Heap) (locs : List Loc) (ls : Array Slot) (pc k z : Nat), k ≤ M.2.2.1.1 → z ≤ M.2.2.1.2 → Pic D dA b n' S' g' H → va_S (AA b) s.heap H locs → decode M.1.2.2 pc = .ok (rop v, 1) → W p l e R s m args below meth c H locs k z Q (F0 m pc ls ((v.map (cv b)).toList))) →
    ∀ (H : Heap) (locs : List Loc) (ls : Array Slot), lv_has ls M.2.1.1 (lmap b L) → Pic D dA b n S g H → va_S (AA b) s.heap H locs →
      W p l e R s m args below meth c H locs k z Q (F0 m pc ls (st.map (cv b)))
def rmM (M : MI) (d : Nat) : Room := { frames := d, cells := M.2.2.1.1, slots := M.2.2.1.2, locals := 64 * d }
def wsM (M : MI) : List Cond := .code M.1.1 M.1.2.2 M.2.1.1 M.2.1.2 :: tbG
def PcM (l : Launch) (b : Nat) (D : va_G) (dA : Nat → ClassId) (as : List Value) (n : Nat) (S : Nat → Shp) (g : Hp) : Array Value → State → Prop := fun a U => a = (as.map (cv b)).toArray ∧ Pic D dA b n S g U.heap ∧ KK D dA U ∧ 0 < n ∧ GG l b U
def QcM (r : Option FieldType) (P : Pst) (b : Nat) (D : va_G) (dA : Nat → ClassId) : Array Value → State → Outcome → State → Prop := fun _ st oc t =>
  (∃ (v : Option Value) (n' : Nat) (S' : Nat → Shp) (g' : Hp), oc = .returned (v.map (cv b)) ∧ P v n' S' g' ∧ rok r v ∧ Pic D dA b n' S' g' t.heap) ∧ va_F (AA b) st t
def Runs (M : MI) (d : Nat) (as : List Value) (n : Nat) (S : Nat → Shp) (g : Hp) (P : Pst) : Prop :=
  ∀ (l : Launch) (b : Nat) (D : va_G) (dA : Nat → ClassId), Met l M.1.1 (wsM M) (rmM M d) (PcM l b D dA as n S g) (QcM M.2.1.2 P b D dA) M.2.2.1.1 M.2.2.1.2 (AA b)
theorem cv_cat (b : Nat) (v : Value) (h : ∀ a, v ≠ .retAddr a) : (cv b v).category = v.category := by
  cases v with
  | ref a => cases a <;> rfl
  | retAddr a => exact absurd rfl (h a)
  | _ => rfl
theorem cv_cat2 (b : Nat) (v : Value) : (cv b v).category = 2 ↔ v.category = 2 := by
  cases v with
  | ref a => cases a <;> simp [cv, Value.category]
  | retAddr a => simp [cv, Value.category]
  | _ => simp [cv]
theorem cv_catb (b : Nat) (v : Value) : ((cv b v).category == 2) = (v.category == 2) := by
  rw [Bool.eq_iff_iff, beq_iff_eq, beq_iff_eq]
  exact cv_cat2 b v
theorem Ctx.dec {l : Launch} {M : MI} {d : Nat} {p : Program} {R : Room} {s : State} {m : MethodId} {args : Array Value} {meth : Method} {c : Code} {b : Nat} {D : va_G} {dA : Nat → ClassId} (C : Ctx l M d p R s m args meth c b D dA) {j pc len : Nat} {i : Instr} (h : M.2.2.2[j]? = some (pc, i, len)) : decode M.1.2.2 pc = .ok (i, len) :=
  C.2.2.2.2.2.2.2.2.2 (pc, i, len) (List.mem_of_getElem? h)
/-- a method's contract out of the walk of its body -/
theorem lv_args_map (b : Nat) : ∀ (as : List Value) (i : Nat), lv_args i (as.map (cv b)) = lmap b (lv_args i as)
  | [], _ => rfl
  | v :: vs, i => by
    show (i, cv b v) :: lv_args (if (cv b v).category = 2 then i + 2 else i + 1) (vs.map (cv b)) = (i, cv b v) :: lmap b (lv_args (if v.category = 2 then i + 2 else i + 1) vs)
    rw [lv_args_map b vs]
    by_cases h : v.category = 2
    · rw [if_pos h, if_pos ((cv_cat2 b v).mpr h)]
    · rw [if_neg h, if_neg (fun q => h ((cv_cat2 b v).mp q))]
theorem lg_len_map (b : Nat) (as : List Value) : (lg_sl (as.map (cv b))).length = (lg_sl as).length := by
  unfold lg_sl
  induction as with
  | nil => rfl
  | cons v vs ih =>
    simp only [List.map_cons, List.flatMap_cons, List.length_append]
    rw [ih]
    by_cases h : v.category = 2
    · rw [if_pos h, if_pos ((cv_cat2 b v).mpr h)]; rfl
    · rw [if_neg h, if_neg (fun q => h ((cv_cat2 b v).mp q))]; rfl
theorem rok_none {r : Option FieldType} (h : rok r none) : r = none := by
  cases r with
  | none => rfl
  | some t => cases t <;> exact h.elim
theorem rok_int {r : Option FieldType} {x : Int32} (h : rok r (some (.int x))) : ∃ ty, r = some ty ∧ narrow ty (.int x) = .int x := by
  cases r with
  | none => exact h.elim
  | some t =>
    cases t with
    | int => exact ⟨_, rfl, rfl⟩
    | boolean =>
      refine ⟨_, rfl, ?_⟩
      rcases h with rfl | rfl
      · rfl
      · rfl
    | _ => exact h.elim
theorem rok_long {r : Option FieldType} {x : Int64} (h : rok r (some (.long x))) : r = some .long := by
  cases r with
  | none => exact h.elim
  | some t =>
    cases t with
    | long => rfl
    | _ => exact h.elim
theorem rok_ref {r : Option FieldType} {x : Nat} (h : rok r (some (.ref x))) : ∃ nm, r = some (.object nm) := by
  cases r with
  | none => exact h.elim
  | some t =>
    cases t with
    | object nm => exact ⟨nm, rfl⟩
    | _ => exact h.elim
theorem cv_ref (b a : Nat) : cv b (.ref a) = .null ∨ ∃ q, cv b (.ref a) = .ref q := by
  cases a with
  | zero => exact Or.inl rfl
  | succ a => exact Or.inr ⟨_, rfl⟩
set_option maxHeartbeats 1000000 in
theorem Runs.of {M : MI} {d : Nat} {as : List Value} {n : Nat} {S : Nat → Shp} {g : Hp} {P : Pst} (hpl : plainName M.1.1.cls = true) (hcls : M.1.2.1 = M.1.1.cls) (hdec : ∀ q ∈ M.2.2.2, decode M.1.2.2 q.1 = .ok q.2) (hlen : (lg_sl as).length ≤ M.2.1.1) (hV : V M d 0 (lv_args 0 as) [] n S g 0 0 P) : Runs M d as n S g P := by
  intro l b D dA
  refine Met.ofW (cc := M.1.2.2) (maxL := M.2.1.1) (ret := M.2.1.2) hpl rfl ?_
  intro p e s m args below meth c s₁ B hml hv
  obtain ⟨rfl, hP, hK, hn, hG⟩ := hv
  rw [lg_entry_eq]
  have hl := lv_entry (as.map (cv b)) (n := M.2.1.1) (by rw [lg_len_map]; exact hlen)
  rw [lv_args_map] at hl
  have hts := atoms_spec (ws := wsM M) B.pre
  have hnm := (name_of_methodNamed B.named B.method).1
  have hr := B.returns
  have hlocks := B.notSynchronized
  refine hV p l e _ s m _ below meth c b D dA _ ⟨B.exec, B.bytes, hml, by rw [hcls]; exact findClass_of_methodNamed B.named, fun w hw => hts w (List.mem_cons_of_mem _ hw), hK, ⟨by rw [hP.1]; omega, hG⟩, hnm, ⟨Nat.le_refl _, Nat.le_refl _, Nat.le_refl _, Nat.le_refl _⟩, hdec⟩ ?_ s.heap [] _ hl hP va_S.rf
  intro v n' S' g' hPv hrk H locs ls pc k z hk hz hPic hS hdg
  refine W.widen (k := M.2.2.1.1) (n := M.2.2.1.2) hk hz ?_
  have hQ : ∀ t : State, t.heap = H → s.WarmedH t.vm → QcM M.2.1.2 P b D dA (as.map (cv b)).toArray s (.returned (v.map (cv b))) t := fun t ht hW => ⟨⟨v, n', S', g', rfl, hPv, hrk, by rw [ht]; exact hPic⟩, hS.F ht⟩
  cases v with
  | none => exact W.vret B.exec B.bytes (hr.trans (rok_none hrk)) hQ hS.2.2 hdg
  | some w =>
    cases w with
    | int x =>
      obtain ⟨ty, e1, e2⟩ := rok_int hrk
      exact W.zret B.exec B.bytes (hr.trans e1) e2 hQ hS.2.2 hdg
    | long x => exact W.lret B.exec B.bytes (hr.trans (rok_long hrk)) hQ hS.2.2 hdg
    | ref x =>
      obtain ⟨nm, e1⟩ := rok_ref hrk
      exact W.aret B.exec B.bytes (hr.trans e1) (Or.inl ⟨nm, rfl⟩) (cv_ref b x) hQ hS.2.2 hdg
    | float x => exact absurd hrk (by cases M.2.1.2 with | none => exact id | some t => cases t <;> exact id)
    | double x => exact absurd hrk (by cases M.2.1.2 with | none => exact id | some t => cases t <;> exact id)
    | null => exact absurd hrk (by cases M.2.1.2 with | none => exact id | some t => cases t <;> exact id)
    | retAddr x => exact absurd hrk (by cases M.2.1.2 with | none => exact id | some t => cases t <;> exact id)
