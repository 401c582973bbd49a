/-! guess, of, voids, fixture, paper, list, set, get (printed from wip/whole/ops/56.ops4.src) -/
def mgn (f g c : Int64) : Int64 := if c < f - g then c else if f - g < -c then -c else f - g
def oco (f g : Int64) : Int32 := if f = g then 0 else if g < f then 1 else -1
def wby (f g : Int64) : Int32 := if g < f then 1 else if f < g then 2 else 0
theorem jI_mul {a b : Nat} : jI a * jI b = jI (a * b) := (Int32.ofNat_mul a b).symm
theorem jI_add {a b : Nat} : jI a + jI b = jI (a + b) := (Int32.ofNat_add a b).symm
theorem i32_8 {x : Int32} (h0 : 0 ≤ x.toInt) (h : x.toInt ≤ 7) : x = 0 ∨ x = 1 ∨ x = 2 ∨ x = 3 ∨ x = 4 ∨ x = 5 ∨ x = 6 ∨ x = 7 := by
  have e := i32_nat h0
  generalize hn : x.toInt.toNat = n at e
  rcases (by omega : n = 0 ∨ n = 1 ∨ n = 2 ∨ n = 3 ∨ n = 4 ∨ n = 5 ∨ n = 6 ∨ n = 7) with h | h | h | h | h | h | h | h
  · rw [h] at e; exact Or.inl e
  · rw [h] at e; exact Or.inr (Or.inl e)
  · rw [h] at e; exact Or.inr (Or.inr (Or.inl e))
  · rw [h] at e; exact Or.inr (Or.inr (Or.inr (Or.inl e)))
  · rw [h] at e; exact Or.inr (Or.inr (Or.inr (Or.inr (Or.inl e))))
  · rw [h] at e; exact Or.inr (Or.inr (Or.inr (Or.inr (Or.inr (Or.inl e)))))
  · rw [h] at e; exact Or.inr (Or.inr (Or.inr (Or.inr (Or.inr (Or.inr (Or.inl e))))))
  · rw [h] at e; exact Or.inr (Or.inr (Or.inr (Or.inr (Or.inr (Or.inr (Or.inr e))))))
section OPS4
variable {L : Nat} {xs : Nat → Int32} {u : pv_U} {d k : Nat} {x y z w : Int32} {p q : Int64}
theorem C_margin (hk : k < 31) : RR (pv_X0 L xs) d 21 0 [some (.ref 1), some (.int (jI k)), none, none] [] (enc u) = some (some (.long (mgn (gB u 0 k) (gB u 1 k) (gJ u 0))), enc u) := by
  simp only [B21_0, pv_ixn hk (show 31 < 1000000 by decide), lg_le, lg_ge, mgn]
  grind
theorem M_margin (hk : k < 31) : RR (pv_X0 L xs) d 135 0 [some (.ref 55), some (.int (jI k)), none, none] [] (enc u) = some (some (.long (mgn (gB u 17 k) (gB u 18 k) (gJ u 4))), enc u) := by
  simp only [B135_0, pv_ixn hk (show 31 < 1000000 by decide), lg_le, lg_ge, mgn]
  grind
theorem C_outcome (hk : k < 31) : RR (pv_X0 L xs) d 22 0 [some (.ref 1), some (.int (jI k))] [] (enc u) = some (some (.int (oco (gB u 0 k) (gB u 1 k))), enc u) := by
  simp only [B22_0, pv_ixn hk (show 31 < 1000000 by decide), lg_le, lg_eq, oco]
  grind
theorem M_wonBy (hk : k < 31) : RR (pv_X0 L xs) d 144 0 [some (.ref 55), some (.int (jI k))] [] (enc u) = some (some (.int (wby (gB u 17 k) (gB u 18 k))), enc u) := by
  simp only [B144_0, pv_ixn hk (show 31 < 1000000 by decide), lg_le, lg_ge, wby]
  grind
theorem P_of (h : Inv u) : Both L xs 18 133 [some (.ref 0), some (.int x), some (.int y)] [some (.ref 55), some (.int x), some (.int y)] u := by
  have h0 := h
  obtain ⟨⟨b1, b2, b3, b4, b5, b6, b7, b8, b9, b10⟩, ⟨g1, g2⟩, ⟨f1, f2⟩, ⟨t1, t2, t3⟩, ⟨p1, p2, p3⟩, hL, ⟨k1, k2, k3⟩⟩ := h
  have n2 : 0 ≤ (gI u 2).toInt := b4.1
  have n16 : 0 ≤ (gI u 16).toInt := by rw [← b3]; omega
  have hC : ∀ s : Int32, RR (pv_X0 L xs) 99 18 8 [some (.ref 0), some (.int x), some (.int y)] [.int s] (enc u) = if s = 0 then some (some (.long (-9223372036854775808)), enc u) else if inR y 0 7 then (pv_bd (RR (pv_X0 L xs) 98 20 0 [some (.ref 1), some (.int x), some (.int y)] [] (enc u)) fun v w => RR (pv_X0 L xs) 99 18 34 [some (.ref 0), some (.int x), some (.int y)] (v.toList ++ []) w) else some (some (.long (-9223372036854775808)), enc u) := by
    intro s
    rw [B18_8]
    simp only [Int32.lt_iff_toInt_lt, Int32.le_iff_toInt_le, Int64.lt_iff_toInt_lt, lg_lt, lg_gt, lg_le, lg_ge, lg_eq, z0, z1, z2, z3, z4, z5, z6, z7, z12, z20, z30, z99, y0, y1, y2, y3, y6, y7, y99, y15]
    grind
  by_cases q1 : tmOk (gI u 2) x
  case neg =>
    refine ⟨.long (-9223372036854775808), u, u, ?_, ?_, h0, rfl⟩
    · simp only [B18_0, C_game, hC, reduceIte, e10, pv_bd_some, Option.toList_some, Option.toList_none, List.cons_append, List.nil_append, List.append_nil, ite01, if_neg q1]
    · simp only [B133_0, M_game n16, M_isInI, B133_5, B133_17, reduceIte, e10, pv_bd_some, Option.toList_some, Option.toList_none, List.cons_append, List.nil_append, List.append_nil, ite01, ← b1, ← b3, z0, z1, z2, z3, z4, z5, z6, z7, z12, z20, z30, z99, y0, y1, y2, y3, y6, y7, y99, y15, if_neg q1]
  by_cases q2 : inR y 0 7
  case neg =>
    refine ⟨.long (-9223372036854775808), u, u, ?_, ?_, h0, rfl⟩
    · simp only [B18_0, C_game, hC, reduceIte, e10, pv_bd_some, Option.toList_some, Option.toList_none, List.cons_append, List.nil_append, List.append_nil, ite01, if_pos q1, if_neg q2]
    · simp only [B133_0, M_game n16, M_isInI, B133_5, B133_17, reduceIte, e10, pv_bd_some, Option.toList_some, Option.toList_none, List.cons_append, List.nil_append, List.append_nil, ite01, ← b1, ← b3, z0, z1, z2, z3, z4, z5, z6, z7, z12, z20, z30, z99, y0, y1, y2, y3, y6, y7, y99, y15, if_pos q1, if_neg q2]
  have ek : x = jI x.toInt.toNat := i32_nat q1.1
  have hk : x.toInt.toNat < 31 := by omega
  generalize x.toInt.toNat = K at *
  subst ek
  have g := g1 K
  have ix : ∀ F : Nat → pv_R, pv_ix (jI K) 31 F = F K := fun F => pv_ixn hk (by decide)
  rcases i32_8 q2.1 q2.2 with e | e | e | e | e | e | e | e
  · subst e
    refine ⟨.long (gA u 0 K).toInt64, u, u, ?_, ?_, h0, rfl⟩
    · simp only [B18_0, C_game, hC, reduceIte, e10, pv_bd_some, Option.toList_some, Option.toList_none, List.cons_append, List.nil_append, List.append_nil, ite01, if_pos q1, if_pos q2, B20_0, B20_1_0, B20_48, ix, B18_34]
    · simp only [B133_0, M_game n16, M_isInI, B133_5, B133_17, reduceIte, e10, pv_bd_some, Option.toList_some, Option.toList_none, List.cons_append, List.nil_append, List.append_nil, ite01, ← b3, z0, z1, z2, z3, z4, z5, z6, z7, z12, z20, z30, z99, y0, y1, y2, y3, y6, y7, y99, y15, if_pos q1, Int.reduceLE, and_self, B133_25_0, B133_68, ix, ← g.1]
  · subst e
    refine ⟨.long (gA u 1 K).toInt64, u, u, ?_, ?_, h0, rfl⟩
    · simp only [B18_0, C_game, hC, reduceIte, e10, pv_bd_some, Option.toList_some, Option.toList_none, List.cons_append, List.nil_append, List.append_nil, ite01, if_pos q1, if_pos q2, B20_0, B20_1_1, B20_56, ix, B18_34]
    · simp only [B133_0, M_game n16, M_isInI, B133_5, B133_17, reduceIte, e10, pv_bd_some, Option.toList_some, Option.toList_none, List.cons_append, List.nil_append, List.append_nil, ite01, ← b3, z0, z1, z2, z3, z4, z5, z6, z7, z12, z20, z30, z99, y0, y1, y2, y3, y6, y7, y99, y15, if_pos q1, Int.reduceLE, and_self, B133_25_1, B133_76, ix, ← g.2.1]
  · subst e
    refine ⟨.long (gB u 0 K), u, u, ?_, ?_, h0, rfl⟩
    · simp only [B18_0, C_game, hC, reduceIte, e10, pv_bd_some, Option.toList_some, Option.toList_none, List.cons_append, List.nil_append, List.append_nil, ite01, if_pos q1, if_pos q2, B20_0, B20_1_2, B20_64, ix, B18_34]
    · simp only [B133_0, M_game n16, M_isInI, B133_5, B133_17, reduceIte, e10, pv_bd_some, Option.toList_some, Option.toList_none, List.cons_append, List.nil_append, List.append_nil, ite01, ← b3, z0, z1, z2, z3, z4, z5, z6, z7, z12, z20, z30, z99, y0, y1, y2, y3, y6, y7, y99, y15, if_pos q1, Int.reduceLE, and_self, B133_25_2, B133_84, ix, ← g.2.2.1]
  · subst e
    refine ⟨.long (gB u 1 K), u, u, ?_, ?_, h0, rfl⟩
    · simp only [B18_0, C_game, hC, reduceIte, e10, pv_bd_some, Option.toList_some, Option.toList_none, List.cons_append, List.nil_append, List.append_nil, ite01, if_pos q1, if_pos q2, B20_0, B20_1_3, B20_71, ix, B18_34]
    · simp only [B133_0, M_game n16, M_isInI, B133_5, B133_17, reduceIte, e10, pv_bd_some, Option.toList_some, Option.toList_none, List.cons_append, List.nil_append, List.append_nil, ite01, ← b3, z0, z1, z2, z3, z4, z5, z6, z7, z12, z20, z30, z99, y0, y1, y2, y3, y6, y7, y99, y15, if_pos q1, Int.reduceLE, and_self, B133_25_3, B133_91, ix, ← g.2.2.2.1]
  · subst e
    refine ⟨.long (gA u 2 K).toInt64, u, u, ?_, ?_, h0, rfl⟩
    · simp only [B18_0, C_game, hC, reduceIte, e10, pv_bd_some, Option.toList_some, Option.toList_none, List.cons_append, List.nil_append, List.append_nil, ite01, if_pos q1, if_pos q2, B20_0, B20_1_4, B20_78, ix, B18_34]
    · simp only [B133_0, M_game n16, M_isInI, B133_5, B133_17, reduceIte, e10, pv_bd_some, Option.toList_some, Option.toList_none, List.cons_append, List.nil_append, List.append_nil, ite01, ← b3, z0, z1, z2, z3, z4, z5, z6, z7, z12, z20, z30, z99, y0, y1, y2, y3, y6, y7, y99, y15, if_pos q1, Int.reduceLE, and_self, B133_25_4, B133_98, ix, ← g.2.2.2.2.1]
  · subst e
    refine ⟨.long (gA u 3 K).toInt64, u, u, ?_, ?_, h0, rfl⟩
    · simp only [B18_0, C_game, hC, reduceIte, e10, pv_bd_some, Option.toList_some, Option.toList_none, List.cons_append, List.nil_append, List.append_nil, ite01, if_pos q1, if_pos q2, B20_0, B20_1_5, B20_86, ix, B18_34]
    · simp only [B133_0, M_game n16, M_isInI, B133_5, B133_17, reduceIte, e10, pv_bd_some, Option.toList_some, Option.toList_none, List.cons_append, List.nil_append, List.append_nil, ite01, ← b3, z0, z1, z2, z3, z4, z5, z6, z7, z12, z20, z30, z99, y0, y1, y2, y3, y6, y7, y99, y15, if_pos q1, Int.reduceLE, and_self, B133_25_5, B133_106, ix, ← g.2.2.2.2.2.1]
  · subst e
    have hK2 : (K : Int) < (gI u 2).toInt := by
      have := q1.2
      rw [jI_toInt (by omega)] at this
      exact this
    obtain ⟨_, _, _, _, _, _, _, _, _, v1⟩ := g2 K hk (Or.inl hK2)
    by_cases e0 : gA u 4 K = 0
    · refine ⟨.long 0, u, u, ?_, ?_, h0, rfl⟩
      · simp only [B18_0, C_game, hC, reduceIte, e10, pv_bd_some, Option.toList_some, Option.toList_none, List.cons_append, List.nil_append, List.append_nil, ite01, if_pos q1, if_pos q2, B20_0, B20_1_6, B20_94, ix, e0, B18_34]
      · simp only [B133_0, M_game n16, M_isInI, B133_5, B133_17, reduceIte, e10, pv_bd_some, Option.toList_some, Option.toList_none, List.cons_append, List.nil_append, List.append_nil, ite01, ← b3, z0, z1, z2, z3, z4, z5, z6, z7, z12, z20, z30, z99, y0, y1, y2, y3, y6, y7, y99, y15, if_pos q1, Int.reduceLE, and_self, B133_25_6, B133_114, ix, ← g.2.2.2.2.2.2, e0]
        rfl
    · have e1 : gA u 4 K = 1 := by
        apply Int32.toInt_inj.mp
        have : (gA u 4 K).toInt ≠ 0 := fun e => e0 (Int32.toInt_inj.mp e)
        rw [z1]
        omega
      refine ⟨.long 1, u, u, ?_, ?_, h0, rfl⟩
      · simp only [B18_0, C_game, hC, reduceIte, e10, pv_bd_some, Option.toList_some, Option.toList_none, List.cons_append, List.nil_append, List.append_nil, ite01, if_pos q1, if_pos q2, B20_0, B20_1_6, B20_94, ix, e1, B18_34]
      · simp only [B133_0, M_game n16, M_isInI, B133_5, B133_17, reduceIte, e10, pv_bd_some, Option.toList_some, Option.toList_none, List.cons_append, List.nil_append, List.append_nil, ite01, ← b3, z0, z1, z2, z3, z4, z5, z6, z7, z12, z20, z30, z99, y0, y1, y2, y3, y6, y7, y99, y15, if_pos q1, Int.reduceLE, and_self, B133_25_6, B133_114, ix, ← g.2.2.2.2.2.2, e1]
        rfl
  · subst e
    refine ⟨.long (mgn (gB u 0 K) (gB u 1 K) (gJ u 0)), u, u, ?_, ?_, h0, rfl⟩
    · simp only [B18_0, C_game, hC, reduceIte, e10, pv_bd_some, Option.toList_some, Option.toList_none, List.cons_append, List.nil_append, List.append_nil, ite01, if_pos q1, if_pos q2, B20_0, B20_1_7, B20_109, C_margin hk, B20_114, ix, B18_34]
    · simp only [B133_0, M_game n16, M_isInI, B133_5, B133_17, reduceIte, e10, pv_bd_some, Option.toList_some, Option.toList_none, List.cons_append, List.nil_append, List.append_nil, ite01, ← b3, z0, z1, z2, z3, z4, z5, z6, z7, z12, z20, z30, z99, y0, y1, y2, y3, y6, y7, y99, y15, if_pos q1, Int.reduceLE, and_self, B133_25_out (s0 := 7) (Or.inr (by decide)), B133_122, M_margin hk, B133_127, ix, ← g.2.2.1, ← g.2.2.2.1, ← b9]
def zB (u : pv_U) (b i n : Nat) : pv_U := (u.1, u.2.1, u.2.2.1, fun r j => if r = b ∧ i ≤ j ∧ j < i + n then 0 else u.2.2.2 r j)
theorem zB_zero {b i : Nat} : zB u b i 0 = u := by
  unfold zB
  have : (fun r j => if r = b ∧ i ≤ j ∧ j < i + 0 then 0 else u.2.2.2 r j) = u.2.2.2 := by
    funext r j
    rw [if_neg (by omega)]
  rw [this]
theorem zB_succ {b i n : Nat} : uB (zB u b i n) b (i + n) 0 = zB u b i (n + 1) := by
  have : (fun k => bif Nat.beq k b then vp_updL ((zB u b i n).2.2.2 k) (i + n) 0 else (zB u b i n).2.2.2 k) = (zB u b i (n + 1)).2.2.2 := by
    funext r j
    have e := gB_uB (u := zB u b i n) (i := b) (j := i + n) (k := r) (m := j) (w := 0)
    refine e.trans ?_
    show _ = if r = b ∧ i ≤ j ∧ j < i + (n + 1) then 0 else u.2.2.2 r j
    show (if r = b then (if j = i + n then (0 : Int64) else if r = b ∧ i ≤ j ∧ j < i + n then 0 else u.2.2.2 r j) else if r = b ∧ i ≤ j ∧ j < i + n then 0 else u.2.2.2 r j) = _
    grind
  show (_, _, _, _) = _
  rw [this]
  rfl
theorem gB_zB {b i n r j : Nat} : gB (zB u b i n) r j = if r = b ∧ i ≤ j ∧ j < i + n then 0 else gB u r j := rfl
theorem gA_zB {b i n r : Nat} : gA (zB u b i n) r = gA u r := rfl
theorem gI_zB {b i n r : Nat} : gI (zB u b i n) r = gI u r := rfl
theorem gJ_zB {b i n r : Nat} : gJ (zB u b i n) r = gJ u r := rfl
end OPS4
