/-! THE INVARIANT, over rows -/
def PR (N : Int) (kd on at_ th lf rt : Nat → Int) (k : Nat) : Prop :=
  (-1 ≤ on k ∧ on k < N) ∧ (on k < 0 → at_ k = -1 ∧ th k = 0) ∧
  (0 ≤ on k → (1 ≤ th k ∧ th k ≤ 1000) ∧ (kd (on k).toNat = 2 ∨ kd (on k).toNat = 3) ∧ ((at_ k = 0 ∧ lf (on k).toNat = k) ∨ (at_ k = 1 ∧ rt (on k).toNat = k))) ∧
  (-1 ≤ lf k ∧ lf k < N ∧ (0 ≤ lf k → on (lf k).toNat = k ∧ at_ (lf k).toNat = 0)) ∧
  (-1 ≤ rt k ∧ rt k < N ∧ (0 ≤ rt k → on (rt k).toNat = k ∧ at_ (rt k).toNat = 1))
theorem PR_hang {N : Int} {kd on at_ th lf rt on' at' th' lf' rt' : Nat → Int} {x r : Nat} {e t : Int} (hx : (x : Int) < N) (hr : (r : Int) < N) (hk : kd r = 2 ∨ kd r = 3) (he : e = 0 ∨ e = 1) (ht : 1 ≤ t ∧ t ≤ 1000) (ho : on x < 0) (hf : (e = 0 → lf r < 0) ∧ (e = 1 → rt r < 0))
    (eo : ∀ j, on' j = if j = x then (r : Int) else on j) (ea : ∀ j, at' j = if j = x then e else at_ j) (et : ∀ j, th' j = if j = x then t else th j) (el : ∀ j, lf' j = if e = 0 ∧ j = r then (x : Int) else lf j) (er : ∀ j, rt' j = if e ≠ 0 ∧ j = r then (x : Int) else rt j)
    (h : ∀ j : Nat, (j : Int) < N → PR N kd on at_ th lf rt j) : ∀ j : Nat, (j : Int) < N → PR N kd on' at' th' lf' rt' j := by
  intro j hj
  obtain ⟨a1, a2, a3, a4, a5⟩ := h j hj
  obtain ⟨b1, b2, b3, b4, b5⟩ := h r hr
  refine ⟨?_, ?_, ?_, ?_, ?_⟩
  · rw [eo j]; split <;> omega
  · rw [eo j, ea j, et j]
    by_cases c : j = x
    · rw [if_pos c]; omega
    · rw [if_neg c, if_neg c, if_neg c]; exact a2
  · rw [eo j, ea j, et j]
    by_cases c : j = x
    · rw [if_pos c, if_pos c, if_pos c]
      intro _
      refine ⟨ht, hk, ?_⟩
      rw [el, er]
      rcases he with e0 | e0
      · left; exact ⟨e0, by rw [if_pos ⟨e0, rfl⟩, c]⟩
      · right; exact ⟨e0, by rw [if_pos ⟨by omega, rfl⟩, c]⟩
    · rw [if_neg c, if_neg c, if_neg c]
      intro q
      obtain ⟨t1, t2, t3⟩ := a3 q
      refine ⟨t1, t2, ?_⟩
      rw [el, er]
      by_cases e9 : (on j).toNat = r
      · rw [e9] at t3 ⊢
        rcases t3 with ⟨t4, t5⟩ | ⟨t4, t5⟩
        · left; rw [if_neg (fun q9 => by have := hf.1 q9.1; omega)]; exact ⟨t4, t5⟩
        · right; rw [if_neg (fun q9 => by have := hf.2 (by omega); omega)]; exact ⟨t4, t5⟩
      · rw [if_neg (by omega), if_neg (by omega)]; exact t3
  · rw [el j]
    by_cases c : e = 0 ∧ j = r
    · rw [if_pos c]
      refine ⟨by omega, hx, fun _ => ?_⟩
      rw [eo, ea, if_pos (by omega), if_pos (by omega)]
      exact ⟨by rw [c.2], c.1⟩
    · rw [if_neg c]
      refine ⟨a4.1, a4.2.1, fun q => ?_⟩
      obtain ⟨t1, t2⟩ := a4.2.2 q
      have e9 : (lf j).toNat ≠ x := fun e9 => by rw [e9] at t1; omega
      rw [eo, ea, if_neg e9, if_neg e9]; exact ⟨t1, t2⟩
  · rw [er j]
    by_cases c : e ≠ 0 ∧ j = r
    · rw [if_pos c]
      refine ⟨by omega, hx, fun _ => ?_⟩
      rw [eo, ea, if_pos (by omega), if_pos (by omega)]
      exact ⟨by rw [c.2], by omega⟩
    · rw [if_neg c]
      refine ⟨a5.1, a5.2.1, fun q => ?_⟩
      obtain ⟨t1, t2⟩ := a5.2.2 q
      have e9 : (rt j).toNat ≠ x := fun e9 => by rw [e9] at t1; omega
      rw [eo, ea, if_neg e9, if_neg e9]; exact ⟨t1, t2⟩
theorem PR_off {N : Int} {kd on at_ th lf rt on' at' th' lf' rt' : Nat → Int} {x : Nat} (hx : (x : Int) < N) (ho : 0 ≤ on x)
    (eo : ∀ j, on' j = if j = x then -1 else on j) (ea : ∀ j, at' j = if j = x then -1 else at_ j) (et : ∀ j, th' j = if j = x then 0 else th j) (el : ∀ j, lf' j = if at_ x = 0 ∧ j = (on x).toNat then -1 else lf j) (er : ∀ j, rt' j = if at_ x ≠ 0 ∧ j = (on x).toNat then -1 else rt j)
    (h : ∀ j : Nat, (j : Int) < N → PR N kd on at_ th lf rt j) : ∀ j : Nat, (j : Int) < N → PR N kd on' at' th' lf' rt' j := by
  intro j hj
  obtain ⟨a1, a2, a3, a4, a5⟩ := h j hj
  obtain ⟨b1, b2, b3, b4, b5⟩ := h x hx
  obtain ⟨-, -, b3⟩ := b3 ho
  refine ⟨?_, ?_, ?_, ?_, ?_⟩
  · rw [eo j]; split <;> omega
  · rw [eo j, ea j, et j]
    by_cases c : j = x
    · rw [if_pos c, if_pos c, if_pos c]; omega
    · rw [if_neg c, if_neg c, if_neg c]; exact a2
  · rw [eo j, ea j, et j]
    by_cases c : j = x
    · rw [if_pos c]; omega
    · rw [if_neg c, if_neg c, if_neg c]
      intro q
      obtain ⟨t1, t2, t3⟩ := a3 q
      refine ⟨t1, t2, ?_⟩
      rw [el, er]
      by_cases e : (on j).toNat = (on x).toNat
      · rw [e] at t3 ⊢
        rcases t3 with ⟨t4, t5⟩ | ⟨t4, t5⟩
        · rcases b3 with ⟨b6, b7⟩ | ⟨b6, b7⟩
          · exact absurd (show j = x by omega) c
          · left; rw [if_neg (by omega)]; exact ⟨t4, t5⟩
        · rcases b3 with ⟨b6, b7⟩ | ⟨b6, b7⟩
          · right; rw [if_neg (by omega)]; exact ⟨t4, t5⟩
          · exact absurd (show j = x by omega) c
      · rw [if_neg (by omega), if_neg (by omega)]; exact t3
  · rw [el j]
    by_cases c : at_ x = 0 ∧ j = (on x).toNat
    · rw [if_pos c]; omega
    · rw [if_neg c]
      refine ⟨a4.1, a4.2.1, fun q => ?_⟩
      obtain ⟨t1, t2⟩ := a4.2.2 q
      have e : (lf j).toNat ≠ x := fun e => by rw [e] at t1 t2; omega
      rw [eo, ea, if_neg e, if_neg e]; exact ⟨t1, t2⟩
  · rw [er j]
    by_cases c : at_ x ≠ 0 ∧ j = (on x).toNat
    · rw [if_pos c]; omega
    · rw [if_neg c]
      refine ⟨a5.1, a5.2.1, fun q => ?_⟩
      obtain ⟨t1, t2⟩ := a5.2.2 q
      have e : (rt j).toNat ≠ x := fun e => by rw [e] at t1 t2; omega
      rw [eo, ea, if_neg e, if_neg e]; exact ⟨t1, t2⟩
theorem PR_swap {N : Int} {kd on at_ th lf rt at' lf' rt' : Nat → Int} {x : Nat} (hx : (x : Int) < N)
    (ea : ∀ j, at' j = if 0 ≤ lf x ∧ j = (lf x).toNat then 1 else if 0 ≤ rt x ∧ j = (rt x).toNat then 0 else at_ j) (el : ∀ j, lf' j = if j = x then rt x else lf j) (er : ∀ j, rt' j = if j = x then lf x else rt j)
    (h : ∀ j : Nat, (j : Int) < N → PR N kd on at_ th lf rt j) : ∀ j : Nat, (j : Int) < N → PR N kd on at' th lf' rt' j := by
  intro j hj
  obtain ⟨a1, a2, a3, a4, a5⟩ := h j hj
  obtain ⟨b1, b2, b3, b4, b5⟩ := h x hx
  -- a part that isn't on x keeps its end
  have hk : ∀ i : Nat, on i ≠ x → at' i = at_ i := fun i hi => by
    rw [ea i, if_neg (fun c => hi (by rw [c.2]; exact (b4.2.2 c.1).1)), if_neg (fun c => hi (by rw [c.2]; exact (b5.2.2 c.1).1))]
  refine ⟨a1, fun q => ?_, fun q => ?_, ?_, ?_⟩
  · rw [hk j (by omega)]; exact a2 q
  · obtain ⟨t1, t2, t3⟩ := a3 q
    refine ⟨t1, t2, ?_⟩
    rw [el, er]
    by_cases c : (on j).toNat = x
    · rw [if_pos c, if_pos c]
      rw [c] at t3
      rcases t3 with ⟨t4, t5⟩ | ⟨t4, t5⟩
      · right; exact ⟨by rw [ea j, if_pos (by omega)], t5⟩
      · left
        refine ⟨?_, t5⟩
        rw [ea j, if_neg (fun q9 => ?_), if_pos (by omega)]
        have := (b4.2.2 q9.1).2
        rw [← q9.2] at this; omega
    · rw [if_neg c, if_neg c, hk j (by omega)]; exact t3
  · rw [el j]
    by_cases c : j = x
    · rw [if_pos c]
      refine ⟨b5.1, b5.2.1, fun q => ?_⟩
      obtain ⟨t1, t2⟩ := b5.2.2 q
      refine ⟨by rw [c]; exact t1, ?_⟩
      rw [ea, if_neg (fun q9 => ?_), if_pos ⟨q, rfl⟩]
      have := (b4.2.2 q9.1).2
      rw [← q9.2] at this; omega
    · rw [if_neg c]
      refine ⟨a4.1, a4.2.1, fun q => ?_⟩
      obtain ⟨t1, t2⟩ := a4.2.2 q
      exact ⟨t1, by rw [hk _ (by omega)]; exact t2⟩
  · rw [er j]
    by_cases c : j = x
    · rw [if_pos c]
      refine ⟨b4.1, b4.2.1, fun q => ?_⟩
      obtain ⟨t1, t2⟩ := b4.2.2 q
      exact ⟨by rw [c]; exact t1, by rw [ea, if_pos ⟨q, rfl⟩]⟩
    · rw [if_neg c]
      refine ⟨a5.1, a5.2.1, fun q => ?_⟩
      obtain ⟨t1, t2⟩ := a5.2.2 q
      exact ⟨t1, by rw [hk _ (by omega)]; exact t2⟩
theorem PR_thr {N : Int} {kd on at_ th lf rt th' : Nat → Int} {x : Nat} {w : Int} (hw : 1 ≤ w ∧ w ≤ 1000) (ho : 0 ≤ on x) (et : ∀ j, th' j = if j = x then w else th j)
    (h : ∀ j : Nat, (j : Int) < N → PR N kd on at_ th lf rt j) : ∀ j : Nat, (j : Int) < N → PR N kd on at_ th' lf rt j := by
  intro j hj
  have h1 := h j hj
  unfold PR at h1 ⊢
  obtain ⟨a1, a2, a3, a4, a5⟩ := h1
  refine ⟨a1, fun q => ?_, fun q => ?_, a4, a5⟩
  · rw [et j, if_neg (fun e => by rw [e] at q; omega)]; exact a2 q
  · refine ⟨?_, (a3 q).2⟩
    rw [et j]
    split
    · exact hw
    · exact (a3 q).1
theorem PR_new {N : Int} {kd on at_ th lf rt kd' on' at' th' lf' rt' : Nat → Int} (hN : 0 ≤ N)
    (e0 : ∀ j : Nat, (j : Int) < N → kd' j = kd j ∧ on' j = on j ∧ at' j = at_ j ∧ th' j = th j ∧ lf' j = lf j ∧ rt' j = rt j) (e1 : on' N.toNat = -1 ∧ at' N.toNat = -1 ∧ th' N.toNat = 0 ∧ lf' N.toNat = -1 ∧ rt' N.toNat = -1)
    (h : ∀ j : Nat, (j : Int) < N → PR N kd on at_ th lf rt j) : ∀ j : Nat, (j : Int) < N + 1 → PR (N + 1) kd' on' at' th' lf' rt' j := by
  intro j hj
  by_cases c : (j : Int) < N
  · have h1 := h j c
    unfold PR at h1 ⊢
    obtain ⟨a1, a2, a3, a4, a5⟩ := h1
    obtain ⟨z1, z2, z3, z4, z5, z6⟩ := e0 j c
    rw [z2, z3, z4, z5, z6]
    refine ⟨by omega, a2, fun q => ?_, ⟨by omega, by omega, fun q => ?_⟩, ⟨by omega, by omega, fun q => ?_⟩⟩
    · obtain ⟨y1, y2, y3, y4, y5, y6⟩ := e0 (on j).toNat (by omega)
      rw [y1, y5, y6]; exact a3 q
    · obtain ⟨y1, y2, y3, y4, y5, y6⟩ := e0 (lf j).toNat (by omega)
      rw [y2, y3]; exact a4.2.2 q
    · obtain ⟨y1, y2, y3, y4, y5, y6⟩ := e0 (rt j).toNat (by omega)
      rw [y2, y3]; exact a5.2.2 q
  · have : j = N.toNat := by omega
    subst this
    unfold PR
    rw [e1.1, e1.2.1, e1.2.2.1, e1.2.2.2.1, e1.2.2.2.2]
    omega
theorem Inv.dyn {a a' : Hp} (hI : Inv a) (hs : ∀ i q, rl i q = true → (i < 60 ∨ 62 < i) → (i ≠ 53 ∨ q ≠ 0) → i ≠ 66 → i ≠ 67 → a' i q = a i q) (hp : ∀ j : Nat, (j : Int) < a 53 5 → PR (a 53 5) (a 57) (a' 60) (a' 61) (a' 62) (a' 66) (a' 67) j) (hk : ∀ j : Nat, (j : Int) < a 53 5 → (a 57 j = 1 ∨ a 57 j = 4) → a' 66 j = a 66 j ∧ a' 67 j = a 67 j) (hF : Fo (a 53 5) (a' 60)) : Inv a' := by
  obtain ⟨i1, i2, i3_, i4, i5, i6_⟩ := hI
  have r : ∀ i, (54 ≤ i ∧ i ≤ 59 ∨ 63 ≤ i ∧ i ≤ 65 ∨ 68 ≤ i ∧ i ≤ 70 ∨ i = 77 ∨ i = 78) → a' i = a i := fun i hi => funext fun q => hs i q (by unfold rl; rcases hi with h | h | h | h | h <;> simp <;> omega) (by omega) (by omega) (by omega) (by omega)
  have e5 : a' 53 5 = a 53 5 := hs 53 5 rfl (by omega) (by omega) (by omega) (by omega)
  have e26 : a' 53 26 = a 53 26 := hs 53 26 rfl (by omega) (by omega) (by omega) (by omega)
  have e29 : a' 53 29 = a 53 29 := hs 53 29 rfl (by omega) (by omega) (by omega) (by omega)
  unfold Inv
  rw [e5, e26, e29, r 77 (by omega)]
  refine ⟨i1, fun t ht => ?_, fun k hk9 => ⟨?_, ?_⟩, hF, i5, i6_⟩
  · unfold TI; rw [r 55 (by omega), r 54 (by omega)]; exact i2 t ht
  · have := hp k hk9
    unfold PI
    rw [e5, r 57 (by omega)]
    exact this
  · have := (i3_ k hk9).2
    unfold KI at this ⊢
    rw [r 57 (by omega), r 63 (by omega), r 59 (by omega), r 58 (by omega), r 64 (by omega), r 65 (by omega), r 68 (by omega), r 69 (by omega), r 70 (by omega)]
    rcases this with c | c | c
    · obtain ⟨q1, q2⟩ := hk k hk9 (Or.inl c.1)
      rw [q1, q2]; exact Or.inl c
    · exact Or.inr (Or.inl c)
    · obtain ⟨q1, q2⟩ := hk k hk9 (Or.inr c.1)
      rw [q1, q2]; exact Or.inr (Or.inr c)
theorem Inv.pr {a : Hp} (hI : Inv a) : ∀ j : Nat, (j : Int) < a 53 5 → PR (a 53 5) (a 57) (a 60) (a 61) (a 62) (a 66) (a 67) j := fun j hj => (hI.2.2.1 j hj).1
theorem Inv.st {a : Hp} (hI : Inv a) (w : Int) : Inv (up2 a 53 0 w) := hI
theorem rl_not {i q : Nat} (h : rl i q = true) : i ≠ 0 ∧ (53 ≤ i ∧ i ≤ 78) := by
  unfold rl at h
  simp at h
  omega
