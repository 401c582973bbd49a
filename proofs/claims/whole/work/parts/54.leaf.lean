/-! loops; what the small methods answer, on both sides -/
theorem pv_loop {α : Type} {R : Nat → α → pv_R} {P : Nat → α → Prop} {N : Nat} (step : ∀ k a, k < N → P k a → ∃ a', R k a = R (k + 1) a' ∧ P (k + 1) a') {a0 : α} (h0 : P 0 a0) : ∃ a, R 0 a0 = R N a ∧ P N a := by
  have h : ∀ n, n ≤ N → ∃ a, R 0 a0 = R n a ∧ P n a := by
    intro n
    induction n with
    | zero => exact fun _ => ⟨a0, rfl, h0⟩
    | succ n ih =>
      intro hn
      obtain ⟨a, h1, h2⟩ := ih (by omega)
      obtain ⟨a', h3, h4⟩ := step n a (by omega) h2
      exact ⟨a', h1.trans h3, h4⟩
  exact h N (Nat.le_refl _)
theorem pv_loopQ {α : Type} {R : Nat → α → pv_R} {P : Nat → α → Prop} {Q : pv_R → Prop} {N : Nat} (step : ∀ k a, k < N → P k a → Q (R k a) ∨ ∃ a', R k a = R (k + 1) a' ∧ P (k + 1) a') {a0 : α} (h0 : P 0 a0) : Q (R 0 a0) ∨ ∃ a, R 0 a0 = R N a ∧ P N a := by
  have h : ∀ n, n ≤ N → Q (R 0 a0) ∨ ∃ a, R 0 a0 = R n a ∧ P n a := by
    intro n
    induction n with
    | zero => exact fun _ => Or.inr ⟨a0, rfl, h0⟩
    | succ n ih =>
      intro hn
      rcases ih (by omega) with h1 | ⟨a, h1, h2⟩
      · exact Or.inl h1
      · rcases step n a (by omega) h2 with h3 | ⟨a', h3, h4⟩
        · exact Or.inl (h1 ▸ h3)
        · exact Or.inr ⟨a', h1.trans h3, h4⟩
  exact h N (Nat.le_refl _)
abbrev jI (k : Nat) : Int32 := Int32.ofNat k
theorem jI_toInt {k : Nat} (h : k < 2147483648) : (jI k).toInt = k := Int32.toInt_ofNat_of_lt (by omega)
theorem jI_succ {k : Nat} : jI k + 1 = jI (k + 1) := (Int32.ofNat_add k 1).symm
theorem jI_zero : jI 0 = 0 := rfl
theorem jI_at {x : Int32} (h : 0 ≤ x.toInt) : jI x.toInt.toNat = x := (i32_nat h).symm
theorem pv_ixn {k n : Nat} {K : Nat → pv_R} (h : k < n) (hn : n < 1000000) : pv_ix (jI k) n K = K k := by
  have h1 := jI_toInt (k := k) (by omega)
  rw [pv_ix_at (by omega) (by omega), h1]
  rfl
theorem ite01 {P : Prop} [Decidable P] {α : Type} {a b : α} : (if (if P then (1 : Int32) else 0) = 0 then a else b) = if P then b else a := by
  by_cases h : P
  · simp only [if_pos h]; rfl
  · simp only [if_neg h]; rfl
theorem bif01 {P : Prop} [Decidable P] {α : Type} {a b : α} : (bif decide ((if P then (1 : Int32) else 0) = 0) || decide ((if P then (1 : Int32) else 0) = 1) then a else b) = a := by
  by_cases h : P
  · simp only [if_pos h]; rfl
  · simp only [if_neg h]; rfl
theorem pv_bd_ite {P : Prop} [Decidable P] {a b : pv_R} {K : Option Value → pv_W → pv_R} : pv_bd (if P then a else b) K = if P then pv_bd a K else pv_bd b K := by
  split <;> rfl
theorem e10 : ((1 : Int32) = 0) = False := by decide
theorem z0 : (0 : Int32).toInt = 0 := rfl
theorem z1 : (1 : Int32).toInt = 1 := rfl
theorem z2 : (2 : Int32).toInt = 2 := rfl
theorem z3 : (3 : Int32).toInt = 3 := rfl
theorem z4 : (4 : Int32).toInt = 4 := rfl
theorem z5 : (5 : Int32).toInt = 5 := rfl
theorem z8 : (8 : Int32).toInt = 8 := rfl
theorem z6 : (6 : Int32).toInt = 6 := rfl
theorem z7 : (7 : Int32).toInt = 7 := rfl
theorem z12 : (12 : Int32).toInt = 12 := rfl
theorem z20 : (20 : Int32).toInt = 20 := rfl
theorem z30 : (30 : Int32).toInt = 30 := rfl
theorem z99 : (99 : Int32).toInt = 99 := rfl
theorem y0 : (0 : Int64).toInt = 0 := rfl
theorem y1 : (1 : Int64).toInt = 1 := rfl
theorem y2 : (2 : Int64).toInt = 2 := rfl
theorem y3 : (3 : Int64).toInt = 3 := rfl
theorem y6 : (6 : Int64).toInt = 6 := rfl
theorem y7 : (7 : Int64).toInt = 7 := rfl
theorem y99 : (99 : Int64).toInt = 99 := rfl
theorem y15 : (1000000000000000 : Int64).toInt = 1000000000000000 := rfl
theorem sub1 {x : Int32} (h : 0 ≤ x.toInt) : (x - 1).toInt = x.toInt - 1 := by
  rw [Int32.toInt_sub, z1]
  have := Int32.toInt_lt x
  rw [Int.bmod_eq_of_le (by omega) (by omega)]
abbrev tmOk (n a : Int32) : Prop := 0 ≤ a.toInt ∧ a.toInt < n.toInt
abbrev twoOk (n a b : Int32) : Prop := tmOk n a ∧ tmOk n b ∧ a ≠ b
abbrev scOk (x : Int64) : Prop := inJ x 0 1000000000000000
abbrev dyOk (x : Int32) : Prop := inR x 0 99
abbrev wtOk (x : Int32) : Prop := inR x 1 3
abbrev chOk (x : Int32) : Prop := inR x 0 1
abbrev mdOk (x : Int32) : Prop := inR x 0 2
abbrev liOk (x : Int32) : Prop := inR x 0 3
abbrev asOk (m y : Int32) : Prop := mdOk m ∧ dyOk y
section LEAF
variable {L : Nat} {xs : Nat → Int32} {u : pv_U} {d : Nat} {x y z a b : Int32} {p q : Int64}
theorem C_team : RR (pv_X0 L xs) d 13 0 [some (.ref 1), some (.int x)] [] (enc u) = some (some (.int (if tmOk (gI u 1) x then 1 else 0)), enc u) := by
  rw [B13_0]
  simp only [Int32.lt_iff_toInt_lt, Int32.le_iff_toInt_le, z0]
  grind
theorem C_two : RR (pv_X0 L xs) (d + 1) 12 0 [some (.ref 1), some (.int x), some (.int y)] [] (enc u) = some (some (.int (if twoOk (gI u 1) x y then 1 else 0)), enc u) := by
  simp only [B12_0, C_team, pv_bd_some, Option.toList_some, List.cons_append, List.nil_append, B12_5, B12_13, ite01]
  grind
theorem C_score : RR (pv_X0 L xs) d 14 0 [some (.long p), none] [] (enc u) = some (some (.int (if scOk p then 1 else 0)), enc u) := by
  rw [B14_0]
  simp only [lg_lt, lg_gt, Int64.lt_iff_toInt_lt, y0, y15]
  grind
theorem C_day : RR (pv_X0 L xs) d 15 0 [some (.int x)] [] (enc u) = some (some (.int (if dyOk x then 1 else 0)), enc u) := by
  rw [B15_0]
  simp only [Int32.lt_iff_toInt_lt, z0, z99]
  grind
theorem C_weight : RR (pv_X0 L xs) d 16 0 [some (.int x)] [] (enc u) = some (some (.int (if wtOk x then 1 else 0)), enc u) := by
  rw [B16_0]
  simp only [Int32.lt_iff_toInt_lt, z1, z3]
  grind
theorem C_game : RR (pv_X0 L xs) d 19 0 [some (.ref 1), some (.int x)] [] (enc u) = some (some (.int (if tmOk (gI u 2) x then 1 else 0)), enc u) := by
  rw [B19_0]
  simp only [Int32.lt_iff_toInt_lt, Int32.le_iff_toInt_le, z0]
  grind
theorem C_choice : RR (pv_X0 L xs) d 24 0 [some (.int x)] [] (enc u) = some (some (.int (if chOk x then 1 else 0)), enc u) := by
  rw [B24_0]
  simp only [← Int32.toInt_inj, z0, z1]
  grind
theorem C_asked : RR (pv_X0 L xs) (d + 1) 28 0 [some (.int x), some (.int y)] [] (enc u) = some (some (.int (if asOk x y then 1 else 0)), enc u) := by
  simp only [B28_0, C_day, pv_bd_some, Option.toList_some, List.cons_append, List.nil_append, B28_13, ite01, Int32.lt_iff_toInt_lt, z0, z2]
  grind
theorem C_list : RR (pv_X0 L xs) d 114 0 [some (.int x)] [] (enc u) = some (some (.int (if liOk x then 1 else 0)), enc u) := by
  rw [B114_0]
  simp only [Int32.lt_iff_toInt_lt, Int32.le_iff_toInt_le, z0, z4]
  grind
theorem M_isInI : RR (pv_X0 L xs) d 126 0 [some (.long x.toInt64), none, some (.long p), none, some (.long q), none] [] (enc u) = some (some (.int (if p.toInt ≤ x.toInt ∧ x.toInt ≤ q.toInt then 1 else 0)), enc u) := by
  rw [M_isIn]
  simp only [Int64.lt_iff_toInt_lt, Int32.toInt_toInt64]
  grind
theorem M_team (h : 0 ≤ (gI u 15).toInt) : RR (pv_X0 L xs) (d + 1) 129 0 [some (.ref 55), some (.int x)] [] (enc u) = some (some (.int (if tmOk (gI u 15) x then 1 else 0)), enc u) := by
  simp only [B129_0, M_isInI, pv_bd_some, Option.toList_some, List.cons_append, List.nil_append, B129_13, bif01, y0, Int32.toInt_toInt64, sub1 h]
  grind
theorem M_two (h : 0 ≤ (gI u 15).toInt) : RR (pv_X0 L xs) (d + 2) 128 0 [some (.ref 55), some (.int x), some (.int y)] [] (enc u) = some (some (.int (if twoOk (gI u 15) x y then 1 else 0)), enc u) := by
  simp only [B128_0, M_team h, pv_bd_some, Option.toList_some, List.cons_append, List.nil_append, B128_5, B128_13, ite01]
  grind
theorem M_score : RR (pv_X0 L xs) (d + 1) 130 0 [some (.long p), none] [] (enc u) = some (some (.int (if scOk p then 1 else 0)), enc u) := by
  simp only [B130_0, M_isIn, pv_bd_some, Option.toList_some, List.cons_append, List.nil_append, Int64.lt_iff_toInt_lt, y0, y15]
  have e : (if p.toInt < 0 then (0 : Int32) else if 1000000000000000 < p.toInt then 0 else 1) = if scOk p then 1 else 0 := by grind
  rw [e, B130_8, bif01]
theorem M_day : RR (pv_X0 L xs) (d + 1) 131 0 [some (.int x)] [] (enc u) = some (some (.int (if dyOk x then 1 else 0)), enc u) := by
  simp only [B131_0, M_isInI, pv_bd_some, Option.toList_some, List.cons_append, List.nil_append, B131_9, bif01, y0, y99]
theorem M_asked : RR (pv_X0 L xs) (d + 2) 140 0 [some (.int x), some (.int y)] [] (enc u) = some (some (.int (if asOk x y then 1 else 0)), enc u) := by
  simp only [B140_0, M_isInI, M_day, pv_bd_some, Option.toList_some, List.cons_append, List.nil_append, B140_9, B140_16, ite01, y0, y2]
  grind
theorem M_game (h : 0 ≤ (gI u 16).toInt) : RR (pv_X0 L xs) (d + 1) 134 0 [some (.ref 55), some (.int x)] [] (enc u) = some (some (.int (if tmOk (gI u 16) x then 1 else 0)), enc u) := by
  simp only [B134_0, M_isInI, pv_bd_some, Option.toList_some, List.cons_append, List.nil_append, B134_13, bif01, y0, Int32.toInt_toInt64, sub1 h]
  grind
theorem M_list : RR (pv_X0 L xs) (d + 1) 208 0 [some (.int x)] [] (enc u) = some (some (.int (if liOk x then 1 else 0)), enc u) := by
  simp only [B208_0, M_isInI, pv_bd_some, Option.toList_some, List.cons_append, List.nil_append, B208_9, bif01, y0, y3]
end LEAF
