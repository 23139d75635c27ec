/-! the cells that the constructors lay; the methods, as tables -/
def stab : List (Nat × Nat × List (Option Nat)) := [(99, 0, []), (10, 0, [some 2, some 3, none, none, some 4, some 6, some 9, some 10, some 11, some 18, some 36, none, some 37]), (18, 6, []), (16, 60, []), (1, 0, [some 5]), (16, 60, []), (4, 0, [some 7, some 8]), (13, 8, []), (13, 8, []), (6, 0, []), (6, 0, []), (0, 0, [some 12, some 13, none, some 14, none, some 15, some 16, some 17]), (16, 60, []), (13, 60, []), (14, 5, []), (14, 435, []), (14, 435, []), (13, 435, []), (2, 0, [some 19, none, some 20, none, none, some 21, some 22, some 23, some 33, some 34, some 35]), (13, 10, []), (13, 9, []), (13, 1024, []), (13, 1024, []), (19, 9, []), (13, 252, []), (13, 252, []), (13, 252, []), (13, 252, []), (13, 252, []), (13, 252, []), (13, 252, []), (13, 252, []), (13, 252, []), (13, 9, []), (13, 1024, []), (13, 1024, []), (13, 14, []), (7, 0, [some 38, none, some 39, some 40]), (12, 600, []), (17, 60, []), (13, 60, []), (8, 0, [none, none, some 42]), (14, 16, []), (8, 0, [none, none, some 44]), (14, 16, []), (8, 0, [none, none, some 46]), (14, 16, []), (8, 0, [none, none, some 48]), (14, 16, []), (8, 0, [none, none, some 50]), (14, 16, []), (8, 0, [none, none, some 52]), (14, 16, []), (11, 0, [none, none, some 54, some 55, some 56, none, some 57, some 58, some 59, some 60, some 61, some 62, some 63, some 64, some 65, some 66, some 67, some 68, some 69, some 70, some 71, some 72, some 73, some 74, some 75, some 76, none, some 77, some 78, none, some 79, some 80, none, none, none, none, some 81, some 82, some 83, some 84, some 85, none, none, some 86, some 87, some 88, some 89, some 90, some 91, some 92, some 93, none, some 94, some 95, some 96, some 97, some 98]), (13, 6, []), (13, 6, []), (14, 96, []), (13, 60, []), (13, 60, []), (13, 60, []), (13, 60, []), (13, 60, []), (13, 60, []), (14, 60, []), (14, 60, []), (14, 60, []), (13, 60, []), (13, 60, []), (13, 60, []), (13, 480, []), (13, 480, []), (13, 60, []), (13, 60, []), (13, 60, []), (14, 60, []), (15, 60, []), (15, 60, []), (13, 14, []), (12, 600, []), (13, 8, []), (13, 8, []), (13, 1800, []), (13, 1800, []), (13, 60, []), (13, 60, []), (13, 60, []), (14, 60, []), (14, 60, []), (14, 8, []), (14, 10, []), (13, 200, []), (13, 200, []), (14, 8, []), (14, 8, []), (13, 9216, []), (14, 1024, []), (13, 60, []), (13, 400, []), (13, 400, []), (14, 1, [])]
def cst (l : List (Option Nat)) (q : Nat) : Option Int := match l[q]? with
  | some (some v) => some (v : Int)
  | _ => none
/-- the world: the cells that the constructors laid, then those that were made since -/
def W0 (dy : Nat → Shp) (i : Nat) : Shp := match stab[i]? with
  | some (t, l, cs) => (t, l, cst cs)
  | none => dy i
theorem al {n : Nat} (a : Nat) (h : (decide (0 < a) && decide (a < 100)) = true) (hn : 100 ≤ n) : 0 < a ∧ a < n := by
  rw [Bool.and_eq_true, decide_eq_true_eq, decide_eq_true_eq] at h
  exact ⟨h.1, Nat.lt_of_lt_of_le h.2 hn⟩
set_option maxRecDepth 100000 in
theorem kf0 : ∀ w ∈ u_ws RX0 TX0 11, w ∈ tbG := by decide +kernel
set_option maxRecDepth 100000 in
theorem kf1 : ∀ w ∈ u_ws RX1 TX1 3, w ∈ tbG := by decide +kernel
set_option maxRecDepth 100000 in
theorem kf2 : ∀ w ∈ u_ws RX3 TX3 11, w ∈ tbG := by decide +kernel
set_option maxRecDepth 100000 in
theorem kf3 : ∀ w ∈ u_ws RX4 TX4 14, w ∈ tbG := by decide +kernel
set_option maxRecDepth 100000 in
theorem kf4 : ∀ w ∈ u_ws RX5 TX5 3, w ∈ tbG := by decide +kernel
set_option maxRecDepth 100000 in
theorem kf5 : ∀ w ∈ u_ws RX6 TX6 16, w ∈ tbG := by decide +kernel
set_option maxRecDepth 100000 in
theorem kf6 : ∀ w ∈ u_ws RX7 TX7 3, w ∈ tbG := by decide +kernel
set_option maxRecDepth 100000 in
theorem kf7 : ∀ w ∈ u_ws RX8 TX8 5, w ∈ tbG := by decide +kernel
set_option maxRecDepth 100000 in
theorem kf8 : ∀ w ∈ u_ws RX9 TX9 3, w ∈ tbG := by decide +kernel
set_option maxRecDepth 100000 in
theorem kf9 : ∀ w ∈ u_ws RX10 TX10 10, w ∈ tbG := by decide +kernel
set_option maxRecDepth 100000 in
theorem kf10 : ∀ w ∈ u_ws RX11 TX11 13, w ∈ tbG := by decide +kernel
set_option maxRecDepth 100000 in
theorem kf11 : ∀ w ∈ u_ws RX12 TX12 58, w ∈ tbG := by decide +kernel
theorem ki0 : Cond.initialized RX0 ∈ tbG := tbG_in (List.mem_append_right _ (List.mem_of_getElem? (i := 5) (by decide +kernel))) rfl
theorem ki1 : Cond.initialized RX1 ∈ tbG := tbG_in (List.mem_append_right _ (List.mem_of_getElem? (i := 2) (by decide +kernel))) rfl
theorem ki2 : Cond.initialized RX2 ∈ tbG := tbG_in (List.mem_append_right _ (List.mem_of_getElem? (i := 12) (by decide +kernel))) rfl
theorem ki3 : Cond.initialized RX3 ∈ tbG := tbG_in (List.mem_append_right _ (List.mem_of_getElem? (i := 6) (by decide +kernel))) rfl
theorem ki4 : Cond.initialized RX4 ∈ tbG := tbG_in (List.mem_append_right _ (List.mem_of_getElem? (i := 17) (by decide +kernel))) rfl
theorem ki5 : Cond.initialized RX5 ∈ tbG := tbG_in (List.mem_append_right _ (List.mem_of_getElem? (i := 3) (by decide +kernel))) rfl
theorem ki6 : Cond.initialized RX6 ∈ tbG := tbG_in (List.mem_append_right _ (List.mem_of_getElem? (i := 14) (by decide +kernel))) rfl
theorem ki7 : Cond.initialized RX7 ∈ tbG := tbG_in (List.mem_append_right _ (List.mem_of_getElem? (i := 4) (by decide +kernel))) rfl
theorem ki8 : Cond.initialized RX8 ∈ tbG := tbG_in (List.mem_append_right _ (List.mem_of_getElem? (i := 7) (by decide +kernel))) rfl
theorem ki9 : Cond.initialized RX9 ∈ tbG := tbG_in (List.mem_append_right _ (List.mem_of_getElem? (i := 8) (by decide +kernel))) rfl
theorem ki10 : Cond.initialized RX10 ∈ tbG := tbG_in (List.mem_append_right _ (List.mem_of_getElem? (i := 13) (by decide +kernel))) rfl
theorem ki11 : Cond.initialized RX11 ∈ tbG := tbG_in (List.mem_append_right _ (List.mem_of_getElem? (i := 1) (by decide +kernel))) rfl
theorem ki12 : Cond.initialized RX12 ∈ tbG := tbG_in (List.mem_append_right _ (List.mem_of_getElem? (i := 9) (by decide +kernel))) rfl
