/-! OUT OF THE CLASS: it throws -/
section WRows
variable {M M' : MI} {d pc k z n b : Nat} {S : Nat → Shp} {g : Hp} {p : Program} {l : Launch} {e : Env} {R : Room} {s : State} {m : MethodId} {args : Array Value} {below : List Frame} {meth : Method} {c : Code} {D : va_G} {dA : Nat → ClassId} {Q : State → Prop} {H : Heap} {locs : List Loc} {ls : Array Slot} {st : List Value}
theorem w_gt0 {a ci kf idx : Nat} (C : Ctx l M d p R s m args meth c b D dA) (hP : Pic D dA b n S g H) (j : Nat) (hd : M.2.2.2[j]? = some (pc, .getfield idx, 3)) (hf : FR M.1.2.1 idx ci kf) (ha : 0 < a ∧ a < n) (hs : (S a).1 = ci) (hc : ci < 12)
    (w : W p l e R s m args below meth c H locs k z Q (F0 m (pc + 3) ls (cv b (vA (fc ci kf) (gv S g a kf)) :: st))) : W p l e R s m args below meth c H locs k z Q (F0 m pc ls (cv b (.ref a) :: st)) := by
  obtain ⟨Cn, T, N, ref, h1, h2, h3, h4, h5, h6⟩ := hf
  obtain ⟨cell, q1, q2, q3, q4⟩ := hP.obj ha hs hc
  obtain ⟨hSl, hfc, kC, hkC, hkind⟩ := C.2.2.2.2.2.1.1.1 ci _ h1
  obtain ⟨cf, kf', fi, f, hi, hsl⟩ := hSl kf h3
  have hsame : s.fieldFound? ref (T kf).2.1 (T kf).2.2.1 = some (cf, kf', fi, f) := by
    rcases h6 with e | e
    · rw [← e]; exact hi
    · exact u_same (C.2.2.2.2.1 _ e) _ hi
  obtain ⟨a', rfl⟩ : ∃ a', a = a' + 1 := ⟨a - 1, by omega⟩
  refine W.getf C.1 C.2.1 C.2.2.2.1 (C.2.2.2.2.1 _ h5) hsame (u_facts hfc hkC (u_lays C.2.2.2.2.1 h4 h3) hi).1 q1 (by rw [q3]; exact fun h => by cases h) (v := cv b (vA (fc ci kf) (gv S g (a' + 1) kf))) ?_ rfl rfl (C.dec hd) w
  rw [hsl, q4 kf (by rw [h2]; exact h3)]
theorem w_callV {idx a ci : Nat} {P' : Pst} (C : Ctx l M (d + 1) p R s m args meth c b D dA) (hP : Pic D dA b n S g H) (hS : va_S (AA b) s.heap H locs) (hls : ls.size = M.2.1.1) (as : List Value) (j : Nat) (hd : M.2.2.2[j]? = some (pc, .invokevirtual idx, 3)) (hl : LkV M M' idx as.length ci) (ha : 0 < a ∧ a < n) (hs : (S a).1 = ci) (hc : ci < 12) (hw : wds st = true) (hk : k + M'.2.2.1.1 ≤ M.2.2.1.1) (hz : z + M'.2.2.1.2 ≤ M.2.2.1.2) (hr : Runs M' d (.ref a :: as) n S g P')
    (kk : ∀ (v : Option Value) (n' : Nat) (S' : Nat → Shp) (g' : Hp) (H1 : Heap) (locs1 : List Loc), P' v n' S' g' → Pic D dA b n' S' g' H1 → va_S (AA b) s.heap H1 locs1 → W p l e R s m args below meth c H1 locs1 (k + M'.2.2.1.1) (z + M'.2.2.1.2) Q (F0 m (pc + 3) ls ((v.map (cv b)).toList ++ st.map (cv b)))) :
    W p l e R s m args below meth c H locs k z Q (F0 m pc ls ((as.reverse ++ .ref a :: st).map (cv b))) := by
  obtain ⟨a', rfl⟩ : ∃ a', a = a' + 1 := ⟨a - 1, by omega⟩
  obtain ⟨Cn, T, N, g1, g2⟩ := hl.2.2
  obtain ⟨cell, q1, q2, q3, q4⟩ := hP.obj ha hs hc
  have hfc := (C.2.2.2.2.2.1.1.1 ci _ g1).2.1
  refine w_run (rest := st.map (cv b)) (va_runV (As := as.map (cv b)) (b := b + (a' + 1)) (C := Cn) ⟨C.1, C.2.1, C.2.2.1, C.2.2.2.1, C.2.2.2.2.1⟩ (hr l b D dA) ⟨hl.1.cw C, C.2.2.2.2.1 _ hl.2.1, C.2.2.2.2.1 _ g2⟩ ⟨PcM_blind b D dA _ n S g, ⟨cell, q1, by rw [q3]; rfl, by rw [q2]; exact hfc⟩, fun U hU hW => PcM_at hP C.2.2.2.2.2.1 (by omega) hU hW C.2.2.2.2.2.2.1 hS⟩ rfl (List.length_map _) hls ?_ (by show 2 * 0 + _ ≤ 8; rw [Nat.mul_zero, Nat.zero_add]; exact wds_le hw) (C.dec hd) ⟨Nat.le_trans hk C.2.2.2.2.2.2.2.2.1.2.2.1, Nat.le_trans hz C.2.2.2.2.2.2.2.2.1.2.2.2⟩) hS kk
  show (as.reverse ++ .ref (a' + 1) :: st).map (cv b) = (as.map (cv b)).reverse ++ .ref (b + (a' + 1)) :: st.map (cv b)
  rw [List.map_append, List.map_reverse]; rfl
end WRows
/-- cells that say nothing from n on -/
def dyJ (dy : Nat → Shp) (n : Nat) : Nat → Shp := fun i => if i < n then dy i else (20, 0, fun _ => none)
def gJ (g : Hp) (n : Nat) : Hp := fun i q => if i < n then g i q else 0
theorem W0_J {dy : Nat → Shp} {n : Nat} (hn : 100 ≤ n) : (∀ i, i < n → W0 (dyJ dy n) i = W0 dy i) ∧ ∀ i, n ≤ i → W0 (dyJ dy n) i = (20, 0, fun _ => none) := by
  refine ⟨fun i hi => ?_, fun i hi => ?_⟩
  · unfold W0
    cases stab[i]? with
    | some q => rfl
    | none => exact if_pos hi
  · unfold W0
    rw [List.getElem?_eq_none (show stab.length ≤ i from Nat.le_trans (by decide : stab.length ≤ 100) (by omega))]
    exact if_neg (by omega)
theorem Pic.junk {D : va_G} {dA : Nat → ClassId} {b n : Nat} {dy : Nat → Shp} {g : Hp} {H H1 : Heap} (hn : 100 ≤ n) (hP : Pic D dA b n (W0 dy) g H) (hz : H.size ≤ H1.size) (hk : ∀ q : Nat, q < H.size → H1[q]? = H[q]?) : Pic D dA b (H1.size - b) (W0 (dyJ dy n)) (gJ g n) H1 := by
  obtain ⟨p1, p2, p3, p4⟩ := hP
  obtain ⟨w1, w2⟩ := W0_J (dy := dy) hn
  refine ⟨by omega, fun i h1 h2 => ?_, fun i q h1 h2 => ?_, ?_⟩
  · rcases Nat.lt_or_ge i n with c | c
    · have := p2 i h1 c
      unfold cel at this ⊢
      have e1 : gJ g n i = g i := funext fun q => if_pos c
      have e2 : ∀ q, gv (W0 (dyJ dy n)) (gJ g n) i q = gv (W0 dy) g i q := fun q => by unfold gv; rw [w1 i c, e1]
      rw [w1 i c]
      simp only [e2, e1]
      rcases this with ⟨t1, t2⟩ | ⟨t1, t2⟩
      · refine Or.inl ⟨t1, ?_⟩
        unfold t_OB at t2 ⊢
        rw [hk _ (by omega)]
        exact t2
      · exact Or.inr ⟨t1, fun t3 => by rw [hk _ (by omega)]; exact t2 t3⟩
    · unfold cel
      rw [w2 i c]
      exact Or.inr ⟨by decide, fun q => absurd q (by decide)⟩
  · rcases Nat.lt_or_ge i n with c | c
    · rw [w1 i c, show gJ g n i q = g i q from if_pos c]; exact p3 i q h1 c
    · rw [w2 i c, show gJ g n i q = 0 from if_neg (by omega)]
      show (0 : Int) ≤ 0
      decide
  · unfold Scr at p4 ⊢
    have e0 : gJ g n 0 = g 0 := funext fun q => if_pos (by omega)
    rw [e0]
    obtain ⟨s1, s2, s3, s4⟩ := p4
    exact ⟨s1, by rw [hk _ (by omega)]; exact s2, s3, s4⟩
theorem CQ.junk {n n' : Nat} {dy : Nat → Shp} {g a : Hp} (hn : 100 ≤ n) (hle : n ≤ n') (hC : Ca n dy g a) : Ca n' (dyJ dy n) (gJ g n) a := by
  have eg : ∀ i, i < n → gJ g n i = g i := fun i hi => funext fun q => if_pos hi
  obtain ⟨h0, ⟨h1, h2⟩, h3, h4, ⟨h5, h6⟩, h7, h8, h9⟩ := hC
  refine ⟨by omega, ⟨by rw [eg 1 (by omega)]; exact h1, by rw [eg 1 (by omega)]; exact h2⟩, fun t ht => ?_, fun k hk => ?_, ⟨by rw [eg 1 (by omega)]; exact h5, fun i hi => by rw [eg 36 (by omega)]; exact h6 i hi⟩, by rw [eg 37 (by omega)]; exact h7, fun i hi hj => by rw [eg 38 (by omega)]; exact h8 i hi hj, fun p hp => by rw [eg 23 (by omega)]; exact h9 p hp⟩
  · have d := h3 t ht
    unfold CT at d ⊢
    rw [eg 2 (by omega), eg (41 + 2 * t) (by omega), eg (42 + 2 * t) (by omega)]
    exact d
  · have hp := h4 k hk
    have hb : 100 ≤ g 3 k ∧ g 3 k < n := hp.1
    unfold CP at hp ⊢
    rw [eg 3 (by omega)]
    exact CQ.cong (u' := fun j q => gJ g n (g 3 j).toNat q) hp hle rfl (if_pos (by omega)) (fun j _ => rfl) (fun q _ => by show gJ g n (g 3 k).toNat q = g (g 3 k).toNat q; rw [eg _ (by omega)])
theorem cnd_l {x y : Cond} {A : Array Value} {s : State} (h : (Cond.and x y).before A s = true) : x.before A s = true := by
  rw [Cond.before_and, Bool.and_eq_true] at h; exact h.1
theorem cnd_r {x y : Cond} {A : Array Value} {s : State} (h : (Cond.and x y).before A s = true) : y.before A s = true := by
  rw [Cond.before_and, Bool.and_eq_true] at h; exact h.2
/-- what the statics that a throw reads hold -/
theorem GG.st {l : Launch} {b : Nat} {s : State} (h : GG l b s) (hb : b < s.heap.size) : vx_Zq Bundle.tN "UNASSIGNED_STACK" Bundle.steD (AA b) s s.heap ∧ vx_Zq Bundle.tN "SUPPRESSED_SENTINEL" Bundle.listD (AA b) s s.heap := by
  obtain ⟨_, s0, a0, h0, h3, h4, h5, h6⟩ := h
  have hn : narrow_1.before a0 s0 = true := cnd_r h3
  have hp : (Cond.and (Cond.isRef (.static Bundle.tN "UNASSIGNED_STACK" Bundle.steD)) (Cond.isRef (.static Bundle.tN "SUPPRESSED_SENTINEL" Bundle.listD))).before a0 s0 = true := cnd_r (cnd_l (cnd_l (cnd_l (cnd_l hn))))
  have hA : ∀ q : Nat, q < s0.heap.size → ¬ AA b q := fun q hq => by show ¬ b < q; omega
  have z1 := vx_Zqof (h0 _ nse_u1) (h0 _ nse_u3) (cnd_l hp) hA
  have z2 := vx_Zqof (h0 _ nse_u2) (h0 _ nse_u3) (cnd_r hp) hA
  have hk : ∀ q : Nat, q < s0.heap.size → ¬ AA b q → s.heap[q]? = s0.heap[q]? := fun q hq _ => h6 q (by omega)
  exact ⟨(vx_Zq.moved h5.alike z1).kept hk, (vx_Zq.moved h5.alike z2).kept hk⟩
theorem GG.str {l : Launch} {b : Nat} {s : State} {k : ClassId} (h : GG l b s) (hc : s.vm.findClass RX11 = some k) : ∃ sa, vk_R RX11 355 "no such byte" sa s := by
  obtain ⟨_, s0, a0, h0, h3, h4, h5, h6⟩ := h
  have w := h0 _ nse_str
  have hcur : ∃ cur, s0.vm.findClass RX11 = some cur := ⟨k, by rw [← h5.alike.findClass]; exact hc⟩
  obtain ⟨cur, hcur⟩ := hcur
  obtain ⟨_, _, _, sa, _, _, _, _, _, he⟩ := Cond.stringRef_spec hcur w
  have hs : vk_R RX11 355 "no such byte" sa s0 := ⟨by simp only [Cond.before, Cond.holds, Cond.value] at w ⊢; exact w, (Term.string_eval_of_vm (args := a0) (args' := #[]) (U := s0) (V := s0) rfl).trans he⟩
  exact ⟨sa, vk_R.warm h5 hs⟩
