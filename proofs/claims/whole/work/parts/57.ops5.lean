/-! guess, voids, fixture, paper, get, set, list (printed from wip/whole/ops/57.ops5.src) -/
section OPS5
variable {L : Nat} {xs : Nat → Int32} {u : pv_U} {d k : Nat} {x y z w : Int32} {p q : Int64}
theorem i32_01 (h : chOk x) : x = 0 ∨ x = 1 := by
  have := Int32.toInt_inj (x := x) (y := 0)
  have := Int32.toInt_inj (x := x) (y := 1)
  rw [z0] at *
  rw [z1] at *
  grind
theorem C_put30 : RR (pv_X0 L xs) d 17 0 [some (.ref 1), some (.int (30 : Int32)), some (.int x), some (.int y), some (.long p), none, some (.long q), none, some (.int z), some (.int w)] [] (enc u) = some (none, enc (uA (uA (uA (uB (uB (uA (uA u 0 30 x) 1 30 y) 0 30 p) 1 30 q) 2 30 z) 3 30 w) 4 30 0)) := C_put (k := 30) (by decide)
theorem M_puts30 : RR (pv_X0 L xs) d 132 0 [some (.ref 55), some (.int (30 : Int32)), some (.int x), some (.int y), some (.long p), none, some (.long q), none, some (.int z), some (.int w)] [] (enc u) = some (none, enc (uA (uA (uA (uB (uB (uA (uA u 26 30 x) 27 30 y) 17 30 p) 18 30 q) 28 30 z) 29 30 w) 30 30 0)) := M_puts (k := 30) (by decide)
theorem P_guess (h : Inv u) : Both L xs 58 167 [some (.ref 0), some (.int x), some (.int y), some (.long p), none, some (.long q), none] [some (.ref 55), some (.int x), some (.int y), some (.long p), none, some (.long q), none] u := by
  have h0 := h
  obtain ⟨⟨b1, b2, b3, b4, b5, b6, b7, b8, b9, b10⟩, ⟨g1, g2⟩, ⟨f1, f2⟩, ⟨t1, t2, t3⟩, ⟨p1, p2, p3⟩, hL, ⟨k1, k2, k3⟩⟩ := h
  have n1 : 0 ≤ (gI u 1).toInt := by omega
  have n15 : 0 ≤ (gI u 15).toInt := by rw [← b1]; omega
  by_cases q1 : twoOk (gI u 1) x y
  case neg =>
    refine ⟨.int (-1), u, u, ?_, ?_, h0, rfl⟩
    · simp only [B58_0, C_two, C_score, B58_9, B58_18, B58_26, reduceIte, e10, pv_bd_some, Option.toList_some, Option.toList_none, List.cons_append, List.nil_append, List.append_nil, ite01, if_neg q1]
    · simp only [B167_0, M_two n15, M_score, B167_6, B167_15, B167_23, reduceIte, e10, pv_bd_some, Option.toList_some, Option.toList_none, List.cons_append, List.nil_append, List.append_nil, ite01, ← b1, ← b3, z0, z1, z2, z3, z4, z5, z6, z7, z12, z20, z30, z99, y0, y1, y2, y3, y6, y7, y99, y15, if_neg q1]
  by_cases q2 : scOk p
  case neg =>
    refine ⟨.int (-2), u, u, ?_, ?_, h0, rfl⟩
    · simp only [B58_0, C_two, C_score, B58_9, B58_18, B58_26, reduceIte, e10, pv_bd_some, Option.toList_some, Option.toList_none, List.cons_append, List.nil_append, List.append_nil, ite01, if_pos q1, if_neg q2]
    · simp only [B167_0, M_two n15, M_score, B167_6, B167_15, B167_23, reduceIte, e10, pv_bd_some, Option.toList_some, Option.toList_none, List.cons_append, List.nil_append, List.append_nil, ite01, ← b1, ← b3, z0, z1, z2, z3, z4, z5, z6, z7, z12, z20, z30, z99, y0, y1, y2, y3, y6, y7, y99, y15, if_pos q1, if_neg q2]
  by_cases q3 : scOk q
  case neg =>
    refine ⟨.int (-2), u, u, ?_, ?_, h0, rfl⟩
    · simp only [B58_0, C_two, C_score, B58_9, B58_18, B58_26, reduceIte, e10, pv_bd_some, Option.toList_some, Option.toList_none, List.cons_append, List.nil_append, List.append_nil, ite01, if_pos q1, if_pos q2, if_neg q3]
    · simp only [B167_0, M_two n15, M_score, B167_6, B167_15, B167_23, reduceIte, e10, pv_bd_some, Option.toList_some, Option.toList_none, List.cons_append, List.nil_append, List.append_nil, ite01, ← b1, ← b3, z0, z1, z2, z3, z4, z5, z6, z7, z12, z20, z30, z99, y0, y1, y2, y3, y6, y7, y99, y15, if_pos q1, if_pos q2, if_neg q3]
  refine ⟨.int 1, uI (uA (uA (uA (uB (uB (uA (uA u 0 30 x) 1 30 y) 0 30 p) 1 30 q) 2 30 0) 3 30 1) 4 30 0) 4 1, uI (uA (uA (uA (uB (uB (uA (uA (uI (uA (uA (uA (uB (uB (uA (uA u 0 30 x) 1 30 y) 0 30 p) 1 30 q) 2 30 0) 3 30 1) 4 30 0) 4 1) 26 30 x) 27 30 y) 17 30 p) 18 30 q) 28 30 0) 29 30 1) 30 30 0) 18 1, ?_, ?_, ?_, rfl⟩
  · simp only [B58_0, C_two, C_score, B58_9, B58_18, B58_26, reduceIte, e10, pv_bd_some, Option.toList_some, Option.toList_none, List.cons_append, List.nil_append, List.append_nil, ite01, if_pos q1, if_pos q2, if_pos q3, C_put30, B58_48]
  · simp only [B167_0, M_two, n1, M_score, B167_6, B167_15, B167_23, reduceIte, e10, pv_bd_some, Option.toList_some, Option.toList_none, List.cons_append, List.nil_append, List.append_nil, ite01, if_pos q1, if_pos q2, if_pos q3, ← b1, gI_uI, gI_uJ, gI_uA, gI_uB, gJ_uI, gJ_uJ, gJ_uA, gJ_uB, gA_uI, gA_uJ, gA_uA, gA_uB, gB_uI, gB_uJ, gB_uA, gB_uB, Nat.reduceEqDiff, M_puts30, B167_42]
  · simp only [Inv, invB, invG, invF, invT, invP, invL, invL1, invK, gI_uI, gI_uJ, gI_uA, gI_uB, gJ_uI, gJ_uJ, gJ_uA, gJ_uB, gA_uI, gA_uJ, gA_uA, gA_uB, gB_uI, gB_uJ, gB_uA, gB_uB] at *
    simp only [Nat.reduceEqDiff, reduceIte]
    refine ⟨⟨b1, b2, b3, b4, b5, b6, trivial, ⟨by decide, by decide⟩, b9, b10⟩, ⟨fun k => ?_, fun k hk hq => ?_⟩, ⟨f1, f2⟩, ⟨t1, t2, t3⟩, ⟨p1, p2, p3⟩, hL, ⟨⟨k1.1, fun j hj => ⟨?_, (k1.2 j hj).2⟩⟩, k2, k3⟩⟩
    · obtain ⟨g11, g12, g13, g14, g15, g16, g17⟩ := g1 k
      rw [g11, g12, g13, g14, g15, g16, g17]
      exact ⟨rfl, rfl, rfl, rfl, rfl, rfl, rfl⟩
    · by_cases e : k = 30
      · simp only [if_pos e]
        exact ⟨q1.1.1, q1.1.2, q1.2.1.1, q1.2.1.2, q1.2.2, q2, q3, ⟨by decide, by decide⟩, ⟨by decide, by decide⟩, by decide, by decide⟩
      · simp only [if_neg e]
        exact g2 k hk (hq.imp id (fun q => absurd q.1 e))
    · split
      · exact ⟨by decide, by decide⟩
      · exact (k1.2 j hj).1
theorem P_voids (h : Inv u) : Both L xs 23 136 [some (.ref 0), some (.int x), some (.int y), none] [some (.ref 55), some (.int x), some (.int y), none] u := by
  have h0 := h
  obtain ⟨⟨b1, b2, b3, b4, b5, b6, b7, b8, b9, b10⟩, ⟨g1, g2⟩, ⟨f1, f2⟩, ⟨t1, t2, t3⟩, ⟨p1, p2, p3⟩, hL, ⟨k1, k2, k3⟩⟩ := h
  have n2 : 0 ≤ (gI u 2).toInt := by omega
  have n16 : 0 ≤ (gI u 16).toInt := by rw [← b3]; omega
  by_cases q1 : tmOk (gI u 2) x
  case neg =>
    refine ⟨.int (-1), u, u, ?_, ?_, h0, rfl⟩
    · simp only [B23_0, C_game, C_choice, B23_8, B23_15, reduceIte, e10, pv_bd_some, Option.toList_some, Option.toList_none, List.cons_append, List.nil_append, List.append_nil, ite01, if_neg q1]
    · simp only [B136_0, M_game n16, M_isInI, B136_5, B136_15, reduceIte, e10, pv_bd_some, Option.toList_some, Option.toList_none, List.cons_append, List.nil_append, List.append_nil, ite01, ← b1, ← b3, z0, z1, z2, z3, z4, z5, z6, z7, z12, z20, z30, z99, y0, y1, y2, y3, y6, y7, y99, y15, if_neg q1]
  by_cases q2 : chOk y
  case neg =>
    refine ⟨.int (-1), u, u, ?_, ?_, h0, rfl⟩
    · simp only [B23_0, C_game, C_choice, B23_8, B23_15, reduceIte, e10, pv_bd_some, Option.toList_some, Option.toList_none, List.cons_append, List.nil_append, List.append_nil, ite01, if_pos q1, if_neg q2]
    · simp only [B136_0, M_game n16, M_isInI, B136_5, B136_15, reduceIte, e10, pv_bd_some, Option.toList_some, Option.toList_none, List.cons_append, List.nil_append, List.append_nil, ite01, ← b1, ← b3, z0, z1, z2, z3, z4, z5, z6, z7, z12, z20, z30, z99, y0, y1, y2, y3, y6, y7, y99, y15, if_pos q1, if_neg q2]
  have ek : x = jI x.toInt.toNat := i32_nat q1.1
  have hk : x.toInt.toNat < 30 := by omega
  generalize x.toInt.toNat = K at *
  subst ek
  have hK2 : (K : Int) < (gI u 2).toInt := by
    have := q1.2
    rw [jI_toInt (by omega)] at this
    exact this
  have ix : ∀ F : Nat → pv_R, pv_ix (jI K) 31 F = F K := fun F => pv_ixn (by omega) (by decide)
  obtain ⟨w1, w2, w3, w4, w5, w6, w7, w8, w9, v1⟩ := g2 K (by omega) (Or.inl hK2)
  have hg := (g1 K).2.2.2.2.2.2
  refine ⟨.int (gA u 4 K), uA u 4 K y, uA (uA u 4 K y) 30 K y, ?_, ?_, ?_, rfl⟩
  · rcases i32_01 q2 with e | e <;> rcases i32_01 v1 with e' | e' <;> subst e <;> simp only [B23_0, C_game, C_choice, B23_8, B23_15, reduceIte, e10, pv_bd_some, Option.toList_some, Option.toList_none, List.cons_append, List.nil_append, List.append_nil, ite01, if_pos q1, ix, e'] <;> rfl
  · simp only [B136_0, M_game, n2, M_isInI, B136_5, B136_15, reduceIte, e10, pv_bd_some, Option.toList_some, Option.toList_none, List.cons_append, List.nil_append, List.append_nil, ite01, if_pos q1, if_pos q2, gI_uI, gI_uJ, gI_uA, gI_uB, gJ_uI, gJ_uJ, gJ_uA, gJ_uB, gA_uI, gA_uJ, gA_uA, gA_uB, gB_uI, gB_uJ, gB_uA, gB_uB, Nat.reduceEqDiff, ← b3, z0, z1, z2, z3, z4, z5, z6, z7, z12, z20, z30, z99, y0, y1, y2, y3, y6, y7, y99, y15, ix, ← hg]
  · simp only [Inv, invB, invG, invF, invT, invP, invL, invL1, invK, gI_uI, gI_uJ, gI_uA, gI_uB, gJ_uI, gJ_uJ, gJ_uA, gJ_uB, gA_uI, gA_uJ, gA_uA, gA_uB, gB_uI, gB_uJ, gB_uA, gB_uB] at *
    simp only [Nat.reduceEqDiff, reduceIte]
    refine ⟨⟨b1, b2, b3, b4, b5, b6, b7, b8, b9, b10⟩, ⟨fun k => ?_, fun k hk hq => ?_⟩, ⟨f1, f2⟩, ⟨t1, t2, t3⟩, ⟨p1, p2, p3⟩, hL, ⟨⟨k1.1, fun j hj => ⟨?_, (k1.2 j hj).2⟩⟩, k2, k3⟩⟩
    · obtain ⟨g11, g12, g13, g14, g15, g16, g17⟩ := g1 k
      rw [g17]
      exact ⟨g11, g12, g13, g14, g15, g16, rfl⟩
    · by_cases e : k = K
      · subst e
        simp only [if_true]
        exact ⟨w1, w2, w3, w4, w5, w6, w7, w8, w9, q2⟩
      · simp only [if_neg e]
        exact g2 k hk hq
    · split
      · exact q2
      · exact (k1.2 j hj).1
theorem P_fixture (h : Inv u) : Both L xs 70 178 [some (.ref 0), some (.int x), some (.int y)] [some (.ref 55), some (.int x), some (.int y)] u := by
  have h0 := h
  obtain ⟨⟨b1, b2, b3, b4, b5, b6, b7, b8, b9, b10⟩, ⟨g1, g2⟩, ⟨f1, f2⟩, ⟨t1, t2, t3⟩, ⟨p1, p2, p3⟩, hL, ⟨k1, k2, k3⟩⟩ := h
  have n1 : 0 ≤ (gI u 1).toInt := by omega
  have n15 : 0 ≤ (gI u 15).toInt := by rw [← b1]; omega
  by_cases q1 : twoOk (gI u 1) x y
  case neg =>
    refine ⟨.int (-1), u, u, ?_, ?_, h0, rfl⟩
    · simp only [B70_0, C_two, B70_9, reduceIte, e10, pv_bd_some, Option.toList_some, Option.toList_none, List.cons_append, List.nil_append, List.append_nil, ite01, if_neg q1]
    · simp only [B178_0, M_two n15, B178_6, reduceIte, e10, pv_bd_some, Option.toList_some, Option.toList_none, List.cons_append, List.nil_append, List.append_nil, ite01, ← b1, ← b3, z0, z1, z2, z3, z4, z5, z6, z7, z12, z20, z30, z99, y0, y1, y2, y3, y6, y7, y99, y15, if_neg q1]
  by_cases q2 : (gI u 3).toInt < 12
  case neg =>
    have e : gI u 3 = 12 := Int32.toInt_inj.mp (by rw [z12]; omega)
    refine ⟨.int (-4), u, u, ?_, ?_, h0, rfl⟩
    · simp only [B70_0, C_two, B70_9, reduceIte, e10, pv_bd_some, Option.toList_some, Option.toList_none, List.cons_append, List.nil_append, List.append_nil, ite01, if_pos q1, e]
      rfl
    · simp only [B178_0, M_two n15, B178_6, reduceIte, e10, pv_bd_some, Option.toList_some, Option.toList_none, List.cons_append, List.nil_append, List.append_nil, ite01, ← b1, ← b5, if_pos q1, e]
  have ek : gI u 3 = jI (gI u 3).toInt.toNat := i32_nat b6.1
  have hk : (gI u 3).toInt.toNat < 12 := by omega
  have hk1 : (gI u 3).toInt.toNat = (gI u 3).toInt := by omega
  generalize hK : (gI u 3).toInt.toNat = K at *
  have e12 : ¬ jI K = 12 := fun e => by
    have := congrArg Int32.toInt e
    rw [jI_toInt (by omega), z12] at this
    omega
  have l12 : jI K < 12 := by rw [Int32.lt_iff_toInt_lt, jI_toInt (by omega), z12]; omega
  have eK : (jI (K + 1)).toInt = K + 1 := by rw [jI_toInt (by omega)]; rfl
  have em : (2 : Int32) * jI K = jI (2 * K) := jI_mul (a := 2)
  have ix : ∀ F : Nat → pv_R, pv_ix (jI K) 12 F = F K := fun F => pv_ixn (by omega) (by decide)
  have ix2 : ∀ F : Nat → pv_R, pv_ix (jI (2 * K)) 24 F = F (2 * K) := fun F => pv_ixn (by omega) (by decide)
  have ix3 : ∀ F : Nat → pv_R, pv_ix (jI (2 * K + 1)) 24 F = F (2 * K + 1) := fun F => pv_ixn (by omega) (by decide)
  refine ⟨.int (jI (K + 1)), uI (uA (uA u 5 K x) 6 K y) 3 (jI (K + 1)), uI (uA (uA (uI (uA (uA u 5 K x) 6 K y) 3 (jI (K + 1))) 31 (2 * K) x) 31 (2 * K + 1) y) 17 (jI (K + 1)), ?_, ?_, ?_, rfl⟩
  · simp only [B70_0, C_two, B70_9, reduceIte, e10, pv_bd_some, Option.toList_some, Option.toList_none, List.cons_append, List.nil_append, List.append_nil, ite01, if_pos q1, ek, if_pos l12, ix, jI_succ]
  · simp only [B178_0, M_two, n1, B178_6, reduceIte, e10, pv_bd_some, Option.toList_some, Option.toList_none, List.cons_append, List.nil_append, List.append_nil, ite01, if_pos q1, ← b1, ← b5, gI_uI, gI_uJ, gI_uA, gI_uB, gJ_uI, gJ_uJ, gJ_uA, gJ_uB, gA_uI, gA_uJ, gA_uA, gA_uB, gB_uI, gB_uJ, gB_uA, gB_uB, Nat.reduceEqDiff, ek, if_neg e12, em, jI_succ, ix2, ix3]
  · simp only [Inv, invB, invG, invF, invT, invP, invL, invL1, invK, gI_uI, gI_uJ, gI_uA, gI_uB, gJ_uI, gJ_uJ, gJ_uA, gJ_uB, gA_uI, gA_uJ, gA_uA, gA_uB, gB_uI, gB_uJ, gB_uA, gB_uB] at *
    simp only [Nat.reduceEqDiff, reduceIte]
    rw [eK]
    refine ⟨⟨b1, b2, b3, b4, trivial, ⟨by omega, by omega⟩, b7, b8, b9, b10⟩, ⟨g1, g2⟩, ⟨fun k hk => ?_, fun k hk => ?_⟩, ⟨t1, t2, t3⟩, ⟨p1, p2, p3⟩, hL, ⟨k1, k2, k3⟩⟩
    · have := f1 k hk
      by_cases e : k = K
      · subst e
        rw [if_pos rfl, if_pos rfl, if_neg (by omega), if_pos rfl, if_pos rfl]
        exact ⟨rfl, rfl⟩
      · rw [if_neg e, if_neg e, if_neg (by omega), if_neg (by omega), if_neg (by omega), if_neg (by omega)]
        exact this
    · by_cases e : k = K
      · simp only [if_pos e]
        exact ⟨q1.1.1, q1.1.2, q1.2.1.1, q1.2.1.2, q1.2.2⟩
      · simp only [if_neg e]
        exact f2 k (by omega)
theorem P_paper (h : Inv u) : Both L xs 108 203 [some (.ref 0), some (.int x)] [some (.ref 55), some (.int x)] u := by
  have h0 := h
  obtain ⟨⟨b1, b2, b3, b4, b5, b6, b7, b8, b9, b10⟩, ⟨g1, g2⟩, ⟨f1, f2⟩, ⟨t1, t2, t3⟩, ⟨p1, p2, p3⟩, hL, ⟨k1, k2, k3⟩⟩ := h
  have n14 : 0 ≤ (gI u 14).toInt := by omega
  have hC : RR (pv_X0 L xs) 99 108 0 [some (.ref 0), some (.int x)] [] (enc u) = if tmOk (gI u 14) x then (pv_ix x 570 fun j1 => some (some (.int (gA u 24 j1)), enc u)) else some (some (.int (-1)), enc u) := by
    rw [B108_0]
    simp only [Int32.lt_iff_toInt_lt, z0]
    grind
  have hM : RR (pv_X0 L xs) 99 203 0 [some (.ref 55), some (.int x)] [] (enc u) = if tmOk (gI u 14) x then (pv_ix x 700 fun j1 => some (some (.int (gA u 34 j1)), enc u)) else some (some (.int (-1)), enc u) := by
    simp only [B203_0, M_isInI, reduceIte, e10, pv_bd_some, Option.toList_some, Option.toList_none, List.cons_append, List.nil_append, List.append_nil, B203_13, ite01, y0, Int32.toInt_toInt64, ← p1, sub1 n14]
    grind
  by_cases q1 : tmOk (gI u 14) x
  case neg =>
    exact ⟨.int (-1), u, u, by rw [hC, if_neg q1], by rw [hM, if_neg q1], h0, rfl⟩
  have hk : x.toInt.toNat < 570 := by omega
  refine ⟨.int (gA u 24 x.toInt.toNat), u, u, ?_, ?_, h0, rfl⟩
  · rw [hC, if_pos q1, pv_ix_at q1.1 (by omega)]
  · rw [hM, if_pos q1, pv_ix_at q1.1 (by omega), p3 x.toInt.toNat (by omega)]
theorem invL_at (h : invL u) (hk : k < 4) : invL1 u k (13 + k) := by
  rcases (by omega : k = 0 ∨ k = 1 ∨ k = 2 ∨ k = 3) with e | e | e | e <;> subst e
  · exact h.1
  · exact h.2.1
  · exact h.2.2.1
  · exact h.2.2.2
theorem invL_mk (h : ∀ l, l < 4 → invL1 u l (13 + l)) : invL u := ⟨h 0 (by decide), h 1 (by decide), h 2 (by decide), h 3 (by decide)⟩
theorem Inv_lists {u v : pv_U} (h : Inv u) (e1 : v.1 = u.1) (e2 : v.2.1 = u.2.1) (eA : ∀ r j, r ≠ 25 → r ≠ 35 → gA v r j = gA u r j) (eB : ∀ r j, (r < 13 ∨ r = 17 ∨ r = 18 ∨ r = 25) → gB v r j = gB u r j) (hL : invL v) : Inv v := by
  obtain ⟨hB, hG, hF, hT, hP, _, hK⟩ := h
  have i : ∀ j, gI v j = gI u j := fun j => congrFun e1 j
  have j : ∀ j, gJ v j = gJ u j := fun j => congrFun e2 j
  refine ⟨?_, ?_, ?_, ?_, ?_, hL, ?_⟩
  · unfold invB at *
    simp only [i, j]
    exact hB
  · unfold invG at *
    simp only [i, eA 0 _ (by decide) (by decide), eA 1 _ (by decide) (by decide), eA 2 _ (by decide) (by decide), eA 3 _ (by decide) (by decide), eA 4 _ (by decide) (by decide), eA 26 _ (by decide) (by decide), eA 27 _ (by decide) (by decide), eA 28 _ (by decide) (by decide), eA 29 _ (by decide) (by decide), eA 30 _ (by decide) (by decide), eB 0 _ (by decide), eB 1 _ (by decide), eB 17 _ (by decide), eB 18 _ (by decide)]
    exact hG
  · unfold invF at *
    simp only [i, eA 5 _ (by decide) (by decide), eA 6 _ (by decide) (by decide), eA 31 _ (by decide) (by decide)]
    exact hF
  · unfold invT at *
    simp only [i, eA 23 _ (by decide) (by decide), eA 33 _ (by decide) (by decide)]
    exact hT
  · unfold invP at *
    simp only [i, eA 24 _ (by decide) (by decide), eA 34 _ (by decide) (by decide)]
    exact hP
  · unfold invK at *
    simp only [i, j, eA 4 _ (by decide) (by decide), eA 7 _ (by decide) (by decide), eA 8 _ (by decide) (by decide), eA 9 _ (by decide) (by decide), eA 10 _ (by decide) (by decide), eA 11 _ (by decide) (by decide), eA 12 _ (by decide) (by decide), eA 13 _ (by decide) (by decide), eA 36 _ (by decide) (by decide), eB 2 _ (by decide), eB 3 _ (by decide), eB 25 _ (by decide)]
    exact hK
theorem C_place {K : Nat} (hK : K < 4) : RR (pv_X0 L xs) d 117 0 [some (.ref 48), some (.int (jI K)), some (.int y)] [] (enc u) = some (some (.int (if tmOk (gA u 25 K) y then 1 else 0)), enc u) := by
  rw [B117_0]
  simp only [pv_ixn hK (show 4 < 1000000 by decide), Int32.lt_iff_toInt_lt, Int32.le_iff_toInt_le, z0]
  grind
theorem P_get (h : Inv u) : Both L xs 118 210 [some (.ref 0), some (.int x), some (.int y)] [some (.ref 55), some (.int x), some (.int y)] u := by
  have h0 := h
  obtain ⟨⟨b1, b2, b3, b4, b5, b6, b7, b8, b9, b10⟩, ⟨g1, g2⟩, ⟨f1, f2⟩, ⟨t1, t2, t3⟩, ⟨p1, p2, p3⟩, hL, ⟨k1, k2, k3⟩⟩ := h
  by_cases q1 : liOk x
  case neg =>
    refine ⟨.long (-9223372036854775808), u, u, ?_, ?_, h0, rfl⟩
    · simp only [B118_0, C_list, B118_4, reduceIte, e10, pv_bd_some, Option.toList_some, Option.toList_none, List.cons_append, List.nil_append, List.append_nil, ite01, if_neg q1]
    · simp only [B210_0, M_list, B210_4, reduceIte, e10, pv_bd_some, Option.toList_some, Option.toList_none, List.cons_append, List.nil_append, List.append_nil, ite01, ← b1, ← b3, z0, z1, z2, z3, z4, z5, z6, z7, z12, z20, z30, z99, y0, y1, y2, y3, y6, y7, y99, y15, if_neg q1]
  have ek : x = jI x.toInt.toNat := i32_nat q1.1
  have hk : x.toInt.toNat < 4 := by omega
  generalize x.toInt.toNat = K at *
  subst ek
  obtain ⟨l1, l2, l3⟩ := invL_at hL hk
  have ix : ∀ F : Nat → pv_R, pv_ix (jI K) 4 F = F K := fun F => pv_ixn hk (by decide)
  have hC : RR (pv_X0 L xs) 99 118 0 [some (.ref 0), some (.int (jI K)), some (.int y)] [] (enc u) = if tmOk (gA u 25 K) y then (pv_ix y 20 fun j1 => some (some (.long (gB u (13 + K) j1)), enc u)) else some (some (.long (-9223372036854775808)), enc u) := by
    simp only [B118_0, C_list, B118_4, reduceIte, e10, pv_bd_some, Option.toList_some, Option.toList_none, List.cons_append, List.nil_append, List.append_nil, ite01, if_pos q1, C_place hk, B118_16, B118_31 hk]
  have hM : RR (pv_X0 L xs) 99 210 0 [some (.ref 55), some (.int (jI K)), some (.int y)] [] (enc u) = if tmOk (gA u 25 K) y then (pv_ix ((20 : Int32) * jI K + y) 80 fun j1 => some (some (.long (gB u 24 j1)), enc u)) else some (some (.long (-9223372036854775808)), enc u) := by
    have hi : ∀ z : Int32, (0 ≤ y.toInt ∧ y.toInt ≤ z.toInt - 1) ↔ tmOk z y := fun z => by
      show _ ↔ (0 ≤ y.toInt ∧ y.toInt < z.toInt)
      omega
    by_cases hp : 0 ≤ (gA u 25 K).toInt
    · simp only [B210_0, M_list, B210_4, reduceIte, e10, pv_bd_some, Option.toList_some, Option.toList_none, List.cons_append, List.nil_append, List.append_nil, ite01, if_pos q1, ix, ← l1, M_isInI, B210_22, y0, Int32.toInt_toInt64, sub1 hp, hi]
    · have t : (-1 : Int32).toInt = -1 := rfl
      have e1 : gA u 25 K = -1 := Int32.toInt_inj.mp (by rw [t]; omega)
      have t2 : ((-1 : Int32) - 1).toInt64.toInt = -2 := rfl
      simp only [B210_0, M_list, B210_4, reduceIte, e10, pv_bd_some, Option.toList_some, Option.toList_none, List.cons_append, List.nil_append, List.append_nil, ite01, if_pos q1, ix, ← l1, e1, M_isInI, B210_22, y0, t2]
      rw [if_neg (by omega), if_neg (show ¬ (0 ≤ y.toInt ∧ y.toInt < (-1 : Int32).toInt) by rw [t]; omega)]
  by_cases q2 : tmOk (gA u 25 K) y
  case neg =>
    exact ⟨.long (-9223372036854775808), u, u, by rw [hC, if_neg q2], by rw [hM, if_neg q2], h0, rfl⟩
  have ek : y = jI y.toInt.toNat := i32_nat q2.1
  have hj : y.toInt.toNat < 20 := by omega
  generalize hJ : y.toInt.toNat = J at *
  have em : (20 : Int32) * jI K + jI J = jI (20 * K + J) := by
    rw [← jI_add, ← jI_mul]
    rfl
  refine ⟨.long (gB u (13 + K) J), u, u, ?_, ?_, h0, rfl⟩
  · rw [hC, if_pos q2, ek, pv_ixn hj (by decide)]
  · rw [hM, if_pos q2, ek, em, pv_ixn (by omega) (by decide), l3 J (by omega)]
theorem P_set (h : Inv u) : Both L xs 116 209 [some (.ref 0), some (.int x), some (.int y), some (.long p), none] [some (.ref 55), some (.int x), some (.int y), some (.long p), none] u := by
  have h0 := h
  obtain ⟨⟨b1, b2, b3, b4, b5, b6, b7, b8, b9, b10⟩, ⟨g1, g2⟩, ⟨f1, f2⟩, ⟨t1, t2, t3⟩, ⟨p1, p2, p3⟩, hL, ⟨k1, k2, k3⟩⟩ := h
  by_cases q1 : liOk x
  case neg =>
    refine ⟨.int (-1), u, u, ?_, ?_, h0, rfl⟩
    · simp only [B116_0, C_list, B116_4, reduceIte, e10, pv_bd_some, Option.toList_some, Option.toList_none, List.cons_append, List.nil_append, List.append_nil, ite01, if_neg q1]
    · simp only [B209_0, M_list, B209_4, reduceIte, e10, pv_bd_some, Option.toList_some, Option.toList_none, List.cons_append, List.nil_append, List.append_nil, ite01, ← b1, ← b3, z0, z1, z2, z3, z4, z5, z6, z7, z12, z20, z30, z99, y0, y1, y2, y3, y6, y7, y99, y15, if_neg q1]
  have ek : x = jI x.toInt.toNat := i32_nat q1.1
  have hk : x.toInt.toNat < 4 := by omega
  generalize x.toInt.toNat = K at *
  subst ek
  obtain ⟨l1, l2, l3⟩ := invL_at hL hk
  have ix : ∀ F : Nat → pv_R, pv_ix (jI K) 4 F = F K := fun F => pv_ixn hk (by decide)
  by_cases q2 : 0 ≤ (gA u 25 K).toInt
  case neg =>
    refine ⟨.int (-11), u, u, ?_, ?_, h0, rfl⟩
    · simp only [B116_0, C_list, B116_4, reduceIte, e10, pv_bd_some, Option.toList_some, Option.toList_none, List.cons_append, List.nil_append, List.append_nil, ite01, if_pos q1, ix, Int32.le_iff_toInt_le, z0, if_neg q2]
    · simp only [B209_0, M_list, B209_4, reduceIte, e10, pv_bd_some, Option.toList_some, Option.toList_none, List.cons_append, List.nil_append, List.append_nil, ite01, if_pos q1, ix, Int32.le_iff_toInt_le, z0, ← l1, if_neg q2]
  have q2' : 0 ≤ (gA u 35 K).toInt := l1 ▸ q2
  by_cases q3 : tmOk (gA u 25 K) y
  case neg =>
    refine ⟨.int (-13), u, u, ?_, ?_, h0, rfl⟩
    · simp only [B116_0, C_list, B116_4, reduceIte, e10, pv_bd_some, Option.toList_some, Option.toList_none, List.cons_append, List.nil_append, List.append_nil, ite01, if_pos q1, ix, Int32.le_iff_toInt_le, z0, if_pos q2, C_place hk, B116_33, if_neg q3]
    · simp only [B209_0, M_list, B209_4, reduceIte, e10, pv_bd_some, Option.toList_some, Option.toList_none, List.cons_append, List.nil_append, List.append_nil, ite01, if_pos q1, ix, Int32.le_iff_toInt_le, z0, ← l1, if_pos q2, M_isInI, B209_36, y0, Int32.toInt_toInt64, sub1 q2]
      grind
  have ek : y = jI y.toInt.toNat := i32_nat q3.1
  have hj : y.toInt.toNat < 20 := by omega
  generalize hJ : y.toInt.toNat = J at *
  subst ek
  have em : (20 : Int32) * jI K + jI J = jI (20 * K + J) := by
    rw [← jI_add, ← jI_mul]
    rfl
  have ix2 : ∀ F : Nat → pv_R, pv_ix (jI J) 20 F = F J := fun F => pv_ixn hj (by decide)
  have ix3 : ∀ F : Nat → pv_R, pv_ix (jI (20 * K + J)) 80 F = F (20 * K + J) := fun F => pv_ixn (by omega) (by decide)
  have q4 : 0 ≤ (jI J).toInt ∧ (jI J).toInt ≤ (gA u 25 K).toInt - 1 := by omega
  refine ⟨.int 1, uB u (13 + K) J p, uB (uB u (13 + K) J p) 24 (20 * K + J) p, ?_, ?_, ?_, rfl⟩
  · simp only [B116_0, C_list, B116_4, reduceIte, e10, pv_bd_some, Option.toList_some, Option.toList_none, List.cons_append, List.nil_append, List.append_nil, ite01, if_pos q1, ix, Int32.le_iff_toInt_le, z0, if_pos q2, C_place hk, B116_33, if_pos q3, B116_47 hk, ix2]
  · simp only [B209_0, M_list, B209_4, reduceIte, e10, pv_bd_some, Option.toList_some, Option.toList_none, List.cons_append, List.nil_append, List.append_nil, ite01, if_pos q1, ix, gI_uI, gI_uJ, gI_uA, gI_uB, gJ_uI, gJ_uJ, gJ_uA, gJ_uB, gA_uI, gA_uJ, gA_uA, gA_uB, gB_uI, gB_uJ, gB_uA, gB_uB, Int32.le_iff_toInt_le, z0, ← l1, if_pos q2, M_isInI, B209_36, y0, Int32.toInt_toInt64, sub1 q2, if_pos q4, em, ix3]
  · refine Inv_lists h0 rfl rfl (fun r j _ _ => rfl) (fun r j hr => ?_) (invL_mk fun l hl => ?_)
    · rw [gB_uB, if_neg (by omega), gB_uB, if_neg (by omega)]
    · obtain ⟨m1, m2, m3⟩ := invL_at hL hl
      refine ⟨m1, m2, fun k hk => ?_⟩
      have hk' : (k : Int) < (gA u 25 l).toInt := hk
      have hm := m2.2
      have := m3 k hk'
      have a1 : gB (uB (uB u (13 + K) J p) 24 (20 * K + J) p) (13 + l) k = if 13 + l = 13 + K then (if k = J then p else gB u (13 + l) k) else gB u (13 + l) k := by rw [gB_uB, if_neg (by omega), gB_uB]
      have a2 : gB (uB (uB u (13 + K) J p) 24 (20 * K + J) p) 24 (20 * l + k) = if 20 * l + k = 20 * K + J then p else gB u 24 (20 * l + k) := by rw [gB_uB, if_pos rfl, gB_uB, if_neg (show ¬ 24 = 13 + K by omega)]
      rw [a1, a2]
      by_cases e : l = K
      · subst e
        rw [if_pos rfl]
        by_cases e2 : k = J
        · rw [if_pos e2, if_pos (by omega)]
        · rw [if_neg e2, if_neg (by omega)]
          exact this
      · rw [if_neg (by omega), if_neg (by omega)]
        exact this
end OPS5
