theorem i36 {x : Int} (h : i3 x) : i6 x := ⟨by have := h.1; omega, by have := h.2; omega⟩
theorem i3_toInt (v : Int32) : i3 v.toInt := ⟨by have := Int32.le_toInt v; omega, by have := Int32.toInt_lt v; omega⟩
theorem i6_toInt (v : Int64) : i6 v.toInt := ⟨by have := Int64.le_toInt v; omega, by have := Int64.toInt_lt v; omega⟩
theorem and3_r (x y : Int) : i3 (and3 x y) := i3_toInt _
theorem or3_r (x y : Int) : i3 (or3 x y) := i3_toInt _
theorem xor3_r (x y : Int) : i3 (xor3 x y) := i3_toInt _
theorem shl3_r (x y : Int) : i3 (shl3 x y) := i3_toInt _
theorem shr3_r (x y : Int) : i3 (shr3 x y) := i3_toInt _
theorem and6_r (x y : Int) : i6 (and6 x y) := i6_toInt _
theorem or6_r (x y : Int) : i6 (or6 x y) := i6_toInt _
theorem xor6_r (x y : Int) : i6 (xor6 x y) := i6_toInt _
theorem shl6_r (x y : Int) : i6 (shl6 x y) := i6_toInt _
theorem c2s_r (x : Int) : i3 (c2s x) := ⟨by unfold c2s; have := Int16.le_toInt (Int32.ofInt x).toInt16; omega, by unfold c2s; have := Int16.toInt_lt (Int32.ofInt x).toInt16; omega⟩
theorem c2b_r (x : Int) : i3 (c2b x) := ⟨by unfold c2b; have := Int8.le_toInt (Int32.ofInt x).toInt8; omega, by unfold c2b; have := Int8.toInt_lt (Int32.ofInt x).toInt8; omega⟩
theorem c2c_r (x : Int) : i3 (c2c x) := i3_toInt _
theorem c2b_n (x : Int) : narrow .byte (I_ (c2b x)) = I_ (c2b x) := by
  have e : Int32.ofInt (c2b x) = (Int32.ofInt x).toInt8.toInt32 := by unfold c2b; rw [← Int8.toInt_toInt32, Int32.ofInt_toInt]
  show narrow .byte (.int (Int32.ofInt (c2b x))) = .int (Int32.ofInt (c2b x))
  rw [e]; exact pk_nb _
theorem rokZ {e : Int} (h : e = 0 ∨ e = 1) : rok (some .boolean) (some (I_ e)) := by
  rcases h with rfl | rfl
  · exact Or.inl rfl
  · exact Or.inr rfl
theorem ix3 {x : Int} {N : Nat} (h : 0 ≤ x ∧ x < (N : Int)) (hN : N ≤ 100000) : i3 x := ⟨by omega, by omega⟩
theorem rI {n : Nat} {S : Nat → Shp} {g : Hp} (w : ∀ i q, 0 < i → i < n → rg (fc (S i).1 q) (g i q)) {a q t : Nat} {x : Int} (ha : 0 < a ∧ a < n) (hs : (S a).1 = t) (ht : fc t q = 0) (he : g a q = x) : i3 x := by
  have h := w a q ha.1 ha.2
  rw [hs, ht, he] at h
  exact h
theorem rL {n : Nat} {S : Nat → Shp} {g : Hp} (w : ∀ i q, 0 < i → i < n → rg (fc (S i).1 q) (g i q)) {a q t : Nat} {x : Int} (ha : 0 < a ∧ a < n) (hs : (S a).1 = t) (ht : fc t q = 1) (he : g a q = x) : i6 x := by
  have h := w a q ha.1 ha.2
  rw [hs, ht, he] at h
  exact h
theorem wk1 (dy : Nat → Shp) : (W0 dy 1).1 = 10 := rfl
theorem wc1_0 (dy : Nat → Shp) : (W0 dy 1).2.2 0 = some ((2 : Nat) : Int) := rfl
theorem wc1_1 (dy : Nat → Shp) : (W0 dy 1).2.2 1 = some ((3 : Nat) : Int) := rfl
theorem wc1_2 (dy : Nat → Shp) : (W0 dy 1).2.2 2 = none := rfl
theorem wc1_3 (dy : Nat → Shp) : (W0 dy 1).2.2 3 = none := rfl
theorem wc1_4 (dy : Nat → Shp) : (W0 dy 1).2.2 4 = some ((4 : Nat) : Int) := rfl
theorem wc1_5 (dy : Nat → Shp) : (W0 dy 1).2.2 5 = some ((6 : Nat) : Int) := rfl
theorem wc1_6 (dy : Nat → Shp) : (W0 dy 1).2.2 6 = some ((9 : Nat) : Int) := rfl
theorem wc1_7 (dy : Nat → Shp) : (W0 dy 1).2.2 7 = some ((10 : Nat) : Int) := rfl
theorem wc1_8 (dy : Nat → Shp) : (W0 dy 1).2.2 8 = some ((11 : Nat) : Int) := rfl
theorem wc1_9 (dy : Nat → Shp) : (W0 dy 1).2.2 9 = some ((18 : Nat) : Int) := rfl
theorem wc1_10 (dy : Nat → Shp) : (W0 dy 1).2.2 10 = some ((36 : Nat) : Int) := rfl
theorem wc1_11 (dy : Nat → Shp) : (W0 dy 1).2.2 11 = none := rfl
theorem wc1_12 (dy : Nat → Shp) : (W0 dy 1).2.2 12 = some ((37 : Nat) : Int) := rfl
theorem wk2 (dy : Nat → Shp) : (W0 dy 2).1 = 18 := rfl
theorem wn2 (dy : Nat → Shp) : (W0 dy 2).2.1 = 6 := rfl
theorem wk3 (dy : Nat → Shp) : (W0 dy 3).1 = 16 := rfl
theorem wn3 (dy : Nat → Shp) : (W0 dy 3).2.1 = 60 := rfl
theorem wk4 (dy : Nat → Shp) : (W0 dy 4).1 = 1 := rfl
theorem wc4_0 (dy : Nat → Shp) : (W0 dy 4).2.2 0 = some ((5 : Nat) : Int) := rfl
theorem wc4_1 (dy : Nat → Shp) : (W0 dy 4).2.2 1 = none := rfl
theorem wc4_2 (dy : Nat → Shp) : (W0 dy 4).2.2 2 = none := rfl
theorem wk5 (dy : Nat → Shp) : (W0 dy 5).1 = 16 := rfl
theorem wn5 (dy : Nat → Shp) : (W0 dy 5).2.1 = 60 := rfl
theorem wk6 (dy : Nat → Shp) : (W0 dy 6).1 = 4 := rfl
theorem wc6_0 (dy : Nat → Shp) : (W0 dy 6).2.2 0 = some ((7 : Nat) : Int) := rfl
theorem wc6_1 (dy : Nat → Shp) : (W0 dy 6).2.2 1 = some ((8 : Nat) : Int) := rfl
theorem wc6_2 (dy : Nat → Shp) : (W0 dy 6).2.2 2 = none := rfl
theorem wk7 (dy : Nat → Shp) : (W0 dy 7).1 = 13 := rfl
theorem wn7 (dy : Nat → Shp) : (W0 dy 7).2.1 = 8 := rfl
theorem wk8 (dy : Nat → Shp) : (W0 dy 8).1 = 13 := rfl
theorem wn8 (dy : Nat → Shp) : (W0 dy 8).2.1 = 8 := rfl
theorem wk9 (dy : Nat → Shp) : (W0 dy 9).1 = 6 := rfl
theorem wc9_0 (dy : Nat → Shp) : (W0 dy 9).2.2 0 = none := rfl
theorem wc9_1 (dy : Nat → Shp) : (W0 dy 9).2.2 1 = none := rfl
theorem wc9_2 (dy : Nat → Shp) : (W0 dy 9).2.2 2 = none := rfl
theorem wk10 (dy : Nat → Shp) : (W0 dy 10).1 = 6 := rfl
theorem wc10_0 (dy : Nat → Shp) : (W0 dy 10).2.2 0 = none := rfl
theorem wc10_1 (dy : Nat → Shp) : (W0 dy 10).2.2 1 = none := rfl
theorem wc10_2 (dy : Nat → Shp) : (W0 dy 10).2.2 2 = none := rfl
theorem wk11 (dy : Nat → Shp) : (W0 dy 11).1 = 0 := rfl
theorem wc11_0 (dy : Nat → Shp) : (W0 dy 11).2.2 0 = some ((12 : Nat) : Int) := rfl
theorem wc11_1 (dy : Nat → Shp) : (W0 dy 11).2.2 1 = some ((13 : Nat) : Int) := rfl
theorem wc11_2 (dy : Nat → Shp) : (W0 dy 11).2.2 2 = none := rfl
theorem wc11_3 (dy : Nat → Shp) : (W0 dy 11).2.2 3 = some ((14 : Nat) : Int) := rfl
theorem wc11_4 (dy : Nat → Shp) : (W0 dy 11).2.2 4 = none := rfl
theorem wc11_5 (dy : Nat → Shp) : (W0 dy 11).2.2 5 = some ((15 : Nat) : Int) := rfl
theorem wc11_6 (dy : Nat → Shp) : (W0 dy 11).2.2 6 = some ((16 : Nat) : Int) := rfl
theorem wc11_7 (dy : Nat → Shp) : (W0 dy 11).2.2 7 = some ((17 : Nat) : Int) := rfl
theorem wc11_8 (dy : Nat → Shp) : (W0 dy 11).2.2 8 = none := rfl
theorem wc11_9 (dy : Nat → Shp) : (W0 dy 11).2.2 9 = none := rfl
theorem wc11_10 (dy : Nat → Shp) : (W0 dy 11).2.2 10 = none := rfl
theorem wk12 (dy : Nat → Shp) : (W0 dy 12).1 = 16 := rfl
theorem wn12 (dy : Nat → Shp) : (W0 dy 12).2.1 = 60 := rfl
theorem wk13 (dy : Nat → Shp) : (W0 dy 13).1 = 13 := rfl
theorem wn13 (dy : Nat → Shp) : (W0 dy 13).2.1 = 60 := rfl
theorem wk14 (dy : Nat → Shp) : (W0 dy 14).1 = 14 := rfl
theorem wn14 (dy : Nat → Shp) : (W0 dy 14).2.1 = 5 := rfl
theorem wk15 (dy : Nat → Shp) : (W0 dy 15).1 = 14 := rfl
theorem wn15 (dy : Nat → Shp) : (W0 dy 15).2.1 = 435 := rfl
theorem wk16 (dy : Nat → Shp) : (W0 dy 16).1 = 14 := rfl
theorem wn16 (dy : Nat → Shp) : (W0 dy 16).2.1 = 435 := rfl
theorem wk17 (dy : Nat → Shp) : (W0 dy 17).1 = 13 := rfl
theorem wn17 (dy : Nat → Shp) : (W0 dy 17).2.1 = 435 := rfl
theorem wk18 (dy : Nat → Shp) : (W0 dy 18).1 = 2 := rfl
theorem wc18_0 (dy : Nat → Shp) : (W0 dy 18).2.2 0 = some ((19 : Nat) : Int) := rfl
theorem wc18_1 (dy : Nat → Shp) : (W0 dy 18).2.2 1 = none := rfl
theorem wc18_2 (dy : Nat → Shp) : (W0 dy 18).2.2 2 = some ((20 : Nat) : Int) := rfl
theorem wc18_3 (dy : Nat → Shp) : (W0 dy 18).2.2 3 = none := rfl
theorem wc18_4 (dy : Nat → Shp) : (W0 dy 18).2.2 4 = none := rfl
theorem wc18_5 (dy : Nat → Shp) : (W0 dy 18).2.2 5 = some ((21 : Nat) : Int) := rfl
theorem wc18_6 (dy : Nat → Shp) : (W0 dy 18).2.2 6 = some ((22 : Nat) : Int) := rfl
theorem wc18_7 (dy : Nat → Shp) : (W0 dy 18).2.2 7 = some ((23 : Nat) : Int) := rfl
theorem wc18_8 (dy : Nat → Shp) : (W0 dy 18).2.2 8 = some ((33 : Nat) : Int) := rfl
theorem wc18_9 (dy : Nat → Shp) : (W0 dy 18).2.2 9 = some ((34 : Nat) : Int) := rfl
theorem wc18_10 (dy : Nat → Shp) : (W0 dy 18).2.2 10 = some ((35 : Nat) : Int) := rfl
theorem wk19 (dy : Nat → Shp) : (W0 dy 19).1 = 13 := rfl
theorem wn19 (dy : Nat → Shp) : (W0 dy 19).2.1 = 10 := rfl
theorem wk20 (dy : Nat → Shp) : (W0 dy 20).1 = 13 := rfl
theorem wn20 (dy : Nat → Shp) : (W0 dy 20).2.1 = 9 := rfl
theorem wk21 (dy : Nat → Shp) : (W0 dy 21).1 = 13 := rfl
theorem wn21 (dy : Nat → Shp) : (W0 dy 21).2.1 = 1024 := rfl
theorem wk22 (dy : Nat → Shp) : (W0 dy 22).1 = 13 := rfl
theorem wn22 (dy : Nat → Shp) : (W0 dy 22).2.1 = 1024 := rfl
theorem wk23 (dy : Nat → Shp) : (W0 dy 23).1 = 19 := rfl
theorem wn23 (dy : Nat → Shp) : (W0 dy 23).2.1 = 9 := rfl
theorem wk24 (dy : Nat → Shp) : (W0 dy 24).1 = 13 := rfl
theorem wn24 (dy : Nat → Shp) : (W0 dy 24).2.1 = 252 := rfl
theorem wk25 (dy : Nat → Shp) : (W0 dy 25).1 = 13 := rfl
theorem wn25 (dy : Nat → Shp) : (W0 dy 25).2.1 = 252 := rfl
theorem wk26 (dy : Nat → Shp) : (W0 dy 26).1 = 13 := rfl
theorem wn26 (dy : Nat → Shp) : (W0 dy 26).2.1 = 252 := rfl
theorem wk27 (dy : Nat → Shp) : (W0 dy 27).1 = 13 := rfl
theorem wn27 (dy : Nat → Shp) : (W0 dy 27).2.1 = 252 := rfl
theorem wk28 (dy : Nat → Shp) : (W0 dy 28).1 = 13 := rfl
theorem wn28 (dy : Nat → Shp) : (W0 dy 28).2.1 = 252 := rfl
theorem wk29 (dy : Nat → Shp) : (W0 dy 29).1 = 13 := rfl
theorem wn29 (dy : Nat → Shp) : (W0 dy 29).2.1 = 252 := rfl
theorem wk30 (dy : Nat → Shp) : (W0 dy 30).1 = 13 := rfl
theorem wn30 (dy : Nat → Shp) : (W0 dy 30).2.1 = 252 := rfl
theorem wk31 (dy : Nat → Shp) : (W0 dy 31).1 = 13 := rfl
theorem wn31 (dy : Nat → Shp) : (W0 dy 31).2.1 = 252 := rfl
theorem wk32 (dy : Nat → Shp) : (W0 dy 32).1 = 13 := rfl
theorem wn32 (dy : Nat → Shp) : (W0 dy 32).2.1 = 252 := rfl
theorem wk33 (dy : Nat → Shp) : (W0 dy 33).1 = 13 := rfl
theorem wn33 (dy : Nat → Shp) : (W0 dy 33).2.1 = 9 := rfl
theorem wk34 (dy : Nat → Shp) : (W0 dy 34).1 = 13 := rfl
theorem wn34 (dy : Nat → Shp) : (W0 dy 34).2.1 = 1024 := rfl
theorem wk35 (dy : Nat → Shp) : (W0 dy 35).1 = 13 := rfl
theorem wn35 (dy : Nat → Shp) : (W0 dy 35).2.1 = 1024 := rfl
theorem wk36 (dy : Nat → Shp) : (W0 dy 36).1 = 13 := rfl
theorem wn36 (dy : Nat → Shp) : (W0 dy 36).2.1 = 14 := rfl
theorem wk37 (dy : Nat → Shp) : (W0 dy 37).1 = 7 := rfl
theorem wc37_0 (dy : Nat → Shp) : (W0 dy 37).2.2 0 = some ((38 : Nat) : Int) := rfl
theorem wc37_1 (dy : Nat → Shp) : (W0 dy 37).2.2 1 = none := rfl
theorem wc37_2 (dy : Nat → Shp) : (W0 dy 37).2.2 2 = some ((39 : Nat) : Int) := rfl
theorem wc37_3 (dy : Nat → Shp) : (W0 dy 37).2.2 3 = some ((40 : Nat) : Int) := rfl
theorem wc37_4 (dy : Nat → Shp) : (W0 dy 37).2.2 4 = none := rfl
theorem wk38 (dy : Nat → Shp) : (W0 dy 38).1 = 12 := rfl
theorem wn38 (dy : Nat → Shp) : (W0 dy 38).2.1 = 600 := rfl
theorem wk39 (dy : Nat → Shp) : (W0 dy 39).1 = 17 := rfl
theorem wn39 (dy : Nat → Shp) : (W0 dy 39).2.1 = 60 := rfl
theorem wk40 (dy : Nat → Shp) : (W0 dy 40).1 = 13 := rfl
theorem wn40 (dy : Nat → Shp) : (W0 dy 40).2.1 = 60 := rfl
theorem wk41 (dy : Nat → Shp) : (W0 dy 41).1 = 8 := rfl
theorem wc41_0 (dy : Nat → Shp) : (W0 dy 41).2.2 0 = none := rfl
theorem wc41_1 (dy : Nat → Shp) : (W0 dy 41).2.2 1 = none := rfl
theorem wc41_2 (dy : Nat → Shp) : (W0 dy 41).2.2 2 = some ((42 : Nat) : Int) := rfl
theorem wk42 (dy : Nat → Shp) : (W0 dy 42).1 = 14 := rfl
theorem wn42 (dy : Nat → Shp) : (W0 dy 42).2.1 = 16 := rfl
theorem wk43 (dy : Nat → Shp) : (W0 dy 43).1 = 8 := rfl
theorem wc43_0 (dy : Nat → Shp) : (W0 dy 43).2.2 0 = none := rfl
theorem wc43_1 (dy : Nat → Shp) : (W0 dy 43).2.2 1 = none := rfl
theorem wc43_2 (dy : Nat → Shp) : (W0 dy 43).2.2 2 = some ((44 : Nat) : Int) := rfl
theorem wk44 (dy : Nat → Shp) : (W0 dy 44).1 = 14 := rfl
theorem wn44 (dy : Nat → Shp) : (W0 dy 44).2.1 = 16 := rfl
theorem wk45 (dy : Nat → Shp) : (W0 dy 45).1 = 8 := rfl
theorem wc45_0 (dy : Nat → Shp) : (W0 dy 45).2.2 0 = none := rfl
theorem wc45_1 (dy : Nat → Shp) : (W0 dy 45).2.2 1 = none := rfl
theorem wc45_2 (dy : Nat → Shp) : (W0 dy 45).2.2 2 = some ((46 : Nat) : Int) := rfl
theorem wk46 (dy : Nat → Shp) : (W0 dy 46).1 = 14 := rfl
theorem wn46 (dy : Nat → Shp) : (W0 dy 46).2.1 = 16 := rfl
theorem wk47 (dy : Nat → Shp) : (W0 dy 47).1 = 8 := rfl
theorem wc47_0 (dy : Nat → Shp) : (W0 dy 47).2.2 0 = none := rfl
theorem wc47_1 (dy : Nat → Shp) : (W0 dy 47).2.2 1 = none := rfl
theorem wc47_2 (dy : Nat → Shp) : (W0 dy 47).2.2 2 = some ((48 : Nat) : Int) := rfl
theorem wk48 (dy : Nat → Shp) : (W0 dy 48).1 = 14 := rfl
theorem wn48 (dy : Nat → Shp) : (W0 dy 48).2.1 = 16 := rfl
theorem wk49 (dy : Nat → Shp) : (W0 dy 49).1 = 8 := rfl
theorem wc49_0 (dy : Nat → Shp) : (W0 dy 49).2.2 0 = none := rfl
theorem wc49_1 (dy : Nat → Shp) : (W0 dy 49).2.2 1 = none := rfl
theorem wc49_2 (dy : Nat → Shp) : (W0 dy 49).2.2 2 = some ((50 : Nat) : Int) := rfl
theorem wk50 (dy : Nat → Shp) : (W0 dy 50).1 = 14 := rfl
theorem wn50 (dy : Nat → Shp) : (W0 dy 50).2.1 = 16 := rfl
theorem wk51 (dy : Nat → Shp) : (W0 dy 51).1 = 8 := rfl
theorem wc51_0 (dy : Nat → Shp) : (W0 dy 51).2.2 0 = none := rfl
theorem wc51_1 (dy : Nat → Shp) : (W0 dy 51).2.2 1 = none := rfl
theorem wc51_2 (dy : Nat → Shp) : (W0 dy 51).2.2 2 = some ((52 : Nat) : Int) := rfl
theorem wk52 (dy : Nat → Shp) : (W0 dy 52).1 = 14 := rfl
theorem wn52 (dy : Nat → Shp) : (W0 dy 52).2.1 = 16 := rfl
theorem wk53 (dy : Nat → Shp) : (W0 dy 53).1 = 11 := rfl
theorem wc53_0 (dy : Nat → Shp) : (W0 dy 53).2.2 0 = none := rfl
theorem wc53_1 (dy : Nat → Shp) : (W0 dy 53).2.2 1 = none := rfl
theorem wc53_2 (dy : Nat → Shp) : (W0 dy 53).2.2 2 = some ((54 : Nat) : Int) := rfl
theorem wc53_3 (dy : Nat → Shp) : (W0 dy 53).2.2 3 = some ((55 : Nat) : Int) := rfl
theorem wc53_4 (dy : Nat → Shp) : (W0 dy 53).2.2 4 = some ((56 : Nat) : Int) := rfl
theorem wc53_5 (dy : Nat → Shp) : (W0 dy 53).2.2 5 = none := rfl
theorem wc53_6 (dy : Nat → Shp) : (W0 dy 53).2.2 6 = some ((57 : Nat) : Int) := rfl
theorem wc53_7 (dy : Nat → Shp) : (W0 dy 53).2.2 7 = some ((58 : Nat) : Int) := rfl
theorem wc53_8 (dy : Nat → Shp) : (W0 dy 53).2.2 8 = some ((59 : Nat) : Int) := rfl
theorem wc53_9 (dy : Nat → Shp) : (W0 dy 53).2.2 9 = some ((60 : Nat) : Int) := rfl
theorem wc53_10 (dy : Nat → Shp) : (W0 dy 53).2.2 10 = some ((61 : Nat) : Int) := rfl
theorem wc53_11 (dy : Nat → Shp) : (W0 dy 53).2.2 11 = some ((62 : Nat) : Int) := rfl
theorem wc53_12 (dy : Nat → Shp) : (W0 dy 53).2.2 12 = some ((63 : Nat) : Int) := rfl
theorem wc53_13 (dy : Nat → Shp) : (W0 dy 53).2.2 13 = some ((64 : Nat) : Int) := rfl
theorem wc53_14 (dy : Nat → Shp) : (W0 dy 53).2.2 14 = some ((65 : Nat) : Int) := rfl
theorem wc53_15 (dy : Nat → Shp) : (W0 dy 53).2.2 15 = some ((66 : Nat) : Int) := rfl
theorem wc53_16 (dy : Nat → Shp) : (W0 dy 53).2.2 16 = some ((67 : Nat) : Int) := rfl
theorem wc53_17 (dy : Nat → Shp) : (W0 dy 53).2.2 17 = some ((68 : Nat) : Int) := rfl
theorem wc53_18 (dy : Nat → Shp) : (W0 dy 53).2.2 18 = some ((69 : Nat) : Int) := rfl
theorem wc53_19 (dy : Nat → Shp) : (W0 dy 53).2.2 19 = some ((70 : Nat) : Int) := rfl
theorem wc53_20 (dy : Nat → Shp) : (W0 dy 53).2.2 20 = some ((71 : Nat) : Int) := rfl
theorem wc53_21 (dy : Nat → Shp) : (W0 dy 53).2.2 21 = some ((72 : Nat) : Int) := rfl
theorem wc53_22 (dy : Nat → Shp) : (W0 dy 53).2.2 22 = some ((73 : Nat) : Int) := rfl
theorem wc53_23 (dy : Nat → Shp) : (W0 dy 53).2.2 23 = some ((74 : Nat) : Int) := rfl
theorem wc53_24 (dy : Nat → Shp) : (W0 dy 53).2.2 24 = some ((75 : Nat) : Int) := rfl
theorem wc53_25 (dy : Nat → Shp) : (W0 dy 53).2.2 25 = some ((76 : Nat) : Int) := rfl
theorem wc53_26 (dy : Nat → Shp) : (W0 dy 53).2.2 26 = none := rfl
theorem wc53_27 (dy : Nat → Shp) : (W0 dy 53).2.2 27 = some ((77 : Nat) : Int) := rfl
theorem wc53_28 (dy : Nat → Shp) : (W0 dy 53).2.2 28 = some ((78 : Nat) : Int) := rfl
theorem wc53_29 (dy : Nat → Shp) : (W0 dy 53).2.2 29 = none := rfl
theorem wc53_30 (dy : Nat → Shp) : (W0 dy 53).2.2 30 = some ((79 : Nat) : Int) := rfl
theorem wc53_31 (dy : Nat → Shp) : (W0 dy 53).2.2 31 = some ((80 : Nat) : Int) := rfl
theorem wc53_32 (dy : Nat → Shp) : (W0 dy 53).2.2 32 = none := rfl
theorem wc53_33 (dy : Nat → Shp) : (W0 dy 53).2.2 33 = none := rfl
theorem wc53_34 (dy : Nat → Shp) : (W0 dy 53).2.2 34 = none := rfl
theorem wc53_35 (dy : Nat → Shp) : (W0 dy 53).2.2 35 = none := rfl
theorem wc53_36 (dy : Nat → Shp) : (W0 dy 53).2.2 36 = some ((81 : Nat) : Int) := rfl
theorem wc53_37 (dy : Nat → Shp) : (W0 dy 53).2.2 37 = some ((82 : Nat) : Int) := rfl
theorem wc53_38 (dy : Nat → Shp) : (W0 dy 53).2.2 38 = some ((83 : Nat) : Int) := rfl
theorem wc53_39 (dy : Nat → Shp) : (W0 dy 53).2.2 39 = some ((84 : Nat) : Int) := rfl
theorem wc53_40 (dy : Nat → Shp) : (W0 dy 53).2.2 40 = some ((85 : Nat) : Int) := rfl
theorem wc53_41 (dy : Nat → Shp) : (W0 dy 53).2.2 41 = none := rfl
theorem wc53_42 (dy : Nat → Shp) : (W0 dy 53).2.2 42 = none := rfl
theorem wc53_43 (dy : Nat → Shp) : (W0 dy 53).2.2 43 = some ((86 : Nat) : Int) := rfl
theorem wc53_44 (dy : Nat → Shp) : (W0 dy 53).2.2 44 = some ((87 : Nat) : Int) := rfl
theorem wc53_45 (dy : Nat → Shp) : (W0 dy 53).2.2 45 = some ((88 : Nat) : Int) := rfl
theorem wc53_46 (dy : Nat → Shp) : (W0 dy 53).2.2 46 = some ((89 : Nat) : Int) := rfl
theorem wc53_47 (dy : Nat → Shp) : (W0 dy 53).2.2 47 = some ((90 : Nat) : Int) := rfl
theorem wc53_48 (dy : Nat → Shp) : (W0 dy 53).2.2 48 = some ((91 : Nat) : Int) := rfl
theorem wc53_49 (dy : Nat → Shp) : (W0 dy 53).2.2 49 = some ((92 : Nat) : Int) := rfl
theorem wc53_50 (dy : Nat → Shp) : (W0 dy 53).2.2 50 = some ((93 : Nat) : Int) := rfl
theorem wc53_51 (dy : Nat → Shp) : (W0 dy 53).2.2 51 = none := rfl
theorem wc53_52 (dy : Nat → Shp) : (W0 dy 53).2.2 52 = some ((94 : Nat) : Int) := rfl
theorem wc53_53 (dy : Nat → Shp) : (W0 dy 53).2.2 53 = some ((95 : Nat) : Int) := rfl
theorem wc53_54 (dy : Nat → Shp) : (W0 dy 53).2.2 54 = some ((96 : Nat) : Int) := rfl
theorem wc53_55 (dy : Nat → Shp) : (W0 dy 53).2.2 55 = some ((97 : Nat) : Int) := rfl
theorem wc53_56 (dy : Nat → Shp) : (W0 dy 53).2.2 56 = some ((98 : Nat) : Int) := rfl
theorem wc53_57 (dy : Nat → Shp) : (W0 dy 53).2.2 57 = none := rfl
theorem wk54 (dy : Nat → Shp) : (W0 dy 54).1 = 13 := rfl
theorem wn54 (dy : Nat → Shp) : (W0 dy 54).2.1 = 6 := rfl
theorem wk55 (dy : Nat → Shp) : (W0 dy 55).1 = 13 := rfl
theorem wn55 (dy : Nat → Shp) : (W0 dy 55).2.1 = 6 := rfl
theorem wk56 (dy : Nat → Shp) : (W0 dy 56).1 = 14 := rfl
theorem wn56 (dy : Nat → Shp) : (W0 dy 56).2.1 = 96 := rfl
theorem wk57 (dy : Nat → Shp) : (W0 dy 57).1 = 13 := rfl
theorem wn57 (dy : Nat → Shp) : (W0 dy 57).2.1 = 60 := rfl
theorem wk58 (dy : Nat → Shp) : (W0 dy 58).1 = 13 := rfl
theorem wn58 (dy : Nat → Shp) : (W0 dy 58).2.1 = 60 := rfl
theorem wk59 (dy : Nat → Shp) : (W0 dy 59).1 = 13 := rfl
theorem wn59 (dy : Nat → Shp) : (W0 dy 59).2.1 = 60 := rfl
theorem wk60 (dy : Nat → Shp) : (W0 dy 60).1 = 13 := rfl
theorem wn60 (dy : Nat → Shp) : (W0 dy 60).2.1 = 60 := rfl
theorem wk61 (dy : Nat → Shp) : (W0 dy 61).1 = 13 := rfl
theorem wn61 (dy : Nat → Shp) : (W0 dy 61).2.1 = 60 := rfl
theorem wk62 (dy : Nat → Shp) : (W0 dy 62).1 = 13 := rfl
theorem wn62 (dy : Nat → Shp) : (W0 dy 62).2.1 = 60 := rfl
theorem wk63 (dy : Nat → Shp) : (W0 dy 63).1 = 14 := rfl
theorem wn63 (dy : Nat → Shp) : (W0 dy 63).2.1 = 60 := rfl
theorem wk64 (dy : Nat → Shp) : (W0 dy 64).1 = 14 := rfl
theorem wn64 (dy : Nat → Shp) : (W0 dy 64).2.1 = 60 := rfl
theorem wk65 (dy : Nat → Shp) : (W0 dy 65).1 = 14 := rfl
theorem wn65 (dy : Nat → Shp) : (W0 dy 65).2.1 = 60 := rfl
theorem wk66 (dy : Nat → Shp) : (W0 dy 66).1 = 13 := rfl
theorem wn66 (dy : Nat → Shp) : (W0 dy 66).2.1 = 60 := rfl
theorem wk67 (dy : Nat → Shp) : (W0 dy 67).1 = 13 := rfl
theorem wn67 (dy : Nat → Shp) : (W0 dy 67).2.1 = 60 := rfl
theorem wk68 (dy : Nat → Shp) : (W0 dy 68).1 = 13 := rfl
theorem wn68 (dy : Nat → Shp) : (W0 dy 68).2.1 = 60 := rfl
theorem wk69 (dy : Nat → Shp) : (W0 dy 69).1 = 13 := rfl
theorem wn69 (dy : Nat → Shp) : (W0 dy 69).2.1 = 480 := rfl
theorem wk70 (dy : Nat → Shp) : (W0 dy 70).1 = 13 := rfl
theorem wn70 (dy : Nat → Shp) : (W0 dy 70).2.1 = 480 := rfl
theorem wk71 (dy : Nat → Shp) : (W0 dy 71).1 = 13 := rfl
theorem wn71 (dy : Nat → Shp) : (W0 dy 71).2.1 = 60 := rfl
theorem wk72 (dy : Nat → Shp) : (W0 dy 72).1 = 13 := rfl
theorem wn72 (dy : Nat → Shp) : (W0 dy 72).2.1 = 60 := rfl
theorem wk73 (dy : Nat → Shp) : (W0 dy 73).1 = 13 := rfl
theorem wn73 (dy : Nat → Shp) : (W0 dy 73).2.1 = 60 := rfl
theorem wk74 (dy : Nat → Shp) : (W0 dy 74).1 = 14 := rfl
theorem wn74 (dy : Nat → Shp) : (W0 dy 74).2.1 = 60 := rfl
theorem wk75 (dy : Nat → Shp) : (W0 dy 75).1 = 15 := rfl
theorem wn75 (dy : Nat → Shp) : (W0 dy 75).2.1 = 60 := rfl
theorem wk76 (dy : Nat → Shp) : (W0 dy 76).1 = 15 := rfl
theorem wn76 (dy : Nat → Shp) : (W0 dy 76).2.1 = 60 := rfl
theorem wk77 (dy : Nat → Shp) : (W0 dy 77).1 = 13 := rfl
theorem wn77 (dy : Nat → Shp) : (W0 dy 77).2.1 = 14 := rfl
theorem wk78 (dy : Nat → Shp) : (W0 dy 78).1 = 12 := rfl
theorem wn78 (dy : Nat → Shp) : (W0 dy 78).2.1 = 600 := rfl
theorem wk79 (dy : Nat → Shp) : (W0 dy 79).1 = 13 := rfl
theorem wn79 (dy : Nat → Shp) : (W0 dy 79).2.1 = 8 := rfl
theorem wk80 (dy : Nat → Shp) : (W0 dy 80).1 = 13 := rfl
theorem wn80 (dy : Nat → Shp) : (W0 dy 80).2.1 = 8 := rfl
theorem wk81 (dy : Nat → Shp) : (W0 dy 81).1 = 13 := rfl
theorem wn81 (dy : Nat → Shp) : (W0 dy 81).2.1 = 1800 := rfl
theorem wk82 (dy : Nat → Shp) : (W0 dy 82).1 = 13 := rfl
theorem wn82 (dy : Nat → Shp) : (W0 dy 82).2.1 = 1800 := rfl
theorem wk83 (dy : Nat → Shp) : (W0 dy 83).1 = 13 := rfl
theorem wn83 (dy : Nat → Shp) : (W0 dy 83).2.1 = 60 := rfl
theorem wk84 (dy : Nat → Shp) : (W0 dy 84).1 = 13 := rfl
theorem wn84 (dy : Nat → Shp) : (W0 dy 84).2.1 = 60 := rfl
theorem wk85 (dy : Nat → Shp) : (W0 dy 85).1 = 13 := rfl
theorem wn85 (dy : Nat → Shp) : (W0 dy 85).2.1 = 60 := rfl
theorem wk86 (dy : Nat → Shp) : (W0 dy 86).1 = 14 := rfl
theorem wn86 (dy : Nat → Shp) : (W0 dy 86).2.1 = 60 := rfl
theorem wk87 (dy : Nat → Shp) : (W0 dy 87).1 = 14 := rfl
theorem wn87 (dy : Nat → Shp) : (W0 dy 87).2.1 = 60 := rfl
theorem wk88 (dy : Nat → Shp) : (W0 dy 88).1 = 14 := rfl
theorem wn88 (dy : Nat → Shp) : (W0 dy 88).2.1 = 8 := rfl
theorem wk89 (dy : Nat → Shp) : (W0 dy 89).1 = 14 := rfl
theorem wn89 (dy : Nat → Shp) : (W0 dy 89).2.1 = 10 := rfl
theorem wk90 (dy : Nat → Shp) : (W0 dy 90).1 = 13 := rfl
theorem wn90 (dy : Nat → Shp) : (W0 dy 90).2.1 = 200 := rfl
theorem wk91 (dy : Nat → Shp) : (W0 dy 91).1 = 13 := rfl
theorem wn91 (dy : Nat → Shp) : (W0 dy 91).2.1 = 200 := rfl
theorem wk92 (dy : Nat → Shp) : (W0 dy 92).1 = 14 := rfl
theorem wn92 (dy : Nat → Shp) : (W0 dy 92).2.1 = 8 := rfl
theorem wk93 (dy : Nat → Shp) : (W0 dy 93).1 = 14 := rfl
theorem wn93 (dy : Nat → Shp) : (W0 dy 93).2.1 = 8 := rfl
theorem wk94 (dy : Nat → Shp) : (W0 dy 94).1 = 13 := rfl
theorem wn94 (dy : Nat → Shp) : (W0 dy 94).2.1 = 9216 := rfl
theorem wk95 (dy : Nat → Shp) : (W0 dy 95).1 = 14 := rfl
theorem wn95 (dy : Nat → Shp) : (W0 dy 95).2.1 = 1024 := rfl
theorem wk96 (dy : Nat → Shp) : (W0 dy 96).1 = 13 := rfl
theorem wn96 (dy : Nat → Shp) : (W0 dy 96).2.1 = 60 := rfl
theorem wk97 (dy : Nat → Shp) : (W0 dy 97).1 = 13 := rfl
theorem wn97 (dy : Nat → Shp) : (W0 dy 97).2.1 = 400 := rfl
theorem wk98 (dy : Nat → Shp) : (W0 dy 98).1 = 13 := rfl
theorem wn98 (dy : Nat → Shp) : (W0 dy 98).2.1 = 400 := rfl
theorem wk99 (dy : Nat → Shp) : (W0 dy 99).1 = 14 := rfl
theorem wn99 (dy : Nat → Shp) : (W0 dy 99).2.1 = 1 := rfl
