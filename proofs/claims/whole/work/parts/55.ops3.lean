/-! teams, game, guess, of, voids, fixture (printed by wip/whole/ops/p55.py) -/
section OPS3
variable {L : Nat} {xs : Nat → Int32} {u : pv_U} {d : Nat} {x y z w : Int32} {p q : Int64}
theorem P_teams (h : Inv u) : Both L xs 10 125 [some (.ref 0), some (.int x), none] [some (.ref 55), some (.int x), none] u := by
  have h0 := h
  obtain ⟨⟨b1, b2, b3, b4, b5, b6, b7, b8, b9, b10⟩, ⟨g1, g2⟩, ⟨f1, f2⟩, ⟨t1, t2, t3⟩, ⟨p1, p2, p3⟩, hL, ⟨k1, k2, k3⟩⟩ := h
  by_cases hx : inR x 2 6
  · refine ⟨.int (gI u 1), uI (uJ (uI (uI (uI u 1 x) 2 0) 3 0) 0 1000000000000000) 4 0, uJ (uI (uI (uI (uI (uI (uJ (uI (uI (uI u 1 x) 2 0) 3 0) 0 1000000000000000) 4 0) 15 x) 16 0) 17 0) 18 0) 4 1000000000000000, ?_, ?_, ?_, rfl⟩
    · rw [B10_0, if_neg (by rw [Int32.lt_iff_toInt_lt, z2]; omega), if_pos (by rw [Int32.le_iff_toInt_le, z6]; omega), B9_0, pv_bd_some]
      exact B10_30
    · simp only [B125_0, M_isInI, reduceIte, e10, pv_bd_some, Option.toList_some, Option.toList_none, List.cons_append, List.nil_append, List.append_nil, y2, y6, B125_11, ite01, if_pos hx, gI_uI, gI_uJ, Nat.reduceEqDiff, reduceIte, ← b1]
    · simp only [Inv, invB, invG, invF, invT, invP, invL, invL1, invK, gI_uI, gI_uJ, gI_uA, gI_uB, gJ_uI, gJ_uJ, gJ_uA, gJ_uB, gA_uI, gA_uJ, gA_uA, gA_uB, gB_uI, gB_uJ, gB_uA, gB_uB] at *
      simp only [Nat.reduceEqDiff, reduceIte]
      refine ⟨⟨trivial, hx, trivial, ⟨by decide, by decide⟩, trivial, ⟨by decide, by decide⟩, trivial, ⟨by decide, by decide⟩, trivial, ⟨by decide, by decide⟩⟩, ⟨g1, fun k hk hq => ?_⟩, ⟨f1, fun k hk => ?_⟩, ⟨t1, t2, t3⟩, ⟨p1, p2, p3⟩, hL, ⟨k1, k2, k3⟩⟩
      · rw [z0] at hq
        rcases hq with hq | hq
        · omega
        · exact absurd hq.2 (by decide)
      · rw [z0] at hk
        omega
  · refine ⟨.int (-2), u, u, ?_, ?_, h0, rfl⟩
    · rw [B10_0]
      simp only [Int32.lt_iff_toInt_lt, Int32.le_iff_toInt_le, z2, z6]
      by_cases hy : x.toInt < 2
      · rw [if_pos hy]
      · rw [if_neg hy, if_neg (by omega)]
    · simp only [B125_0, M_isInI, reduceIte, e10, pv_bd_some, Option.toList_some, Option.toList_none, List.cons_append, List.nil_append, List.append_nil, y2, y6, B125_11, ite01, if_neg hx]
theorem C_put {k : Nat} (hk : k < 31) : RR (pv_X0 L xs) d 17 0 [some (.ref 1), some (.int (jI k)), some (.int x), some (.int y), some (.long p), none, some (.long q), none, some (.int z), some (.int w)] [] (enc u) = some (none, enc (uA (uA (uA (uB (uB (uA (uA u 0 k x) 1 k y) 0 k p) 1 k q) 2 k z) 3 k w) 4 k 0)) := by
  simp only [B17_0, pv_ixn hk (show 31 < 1000000 by decide)]
theorem M_puts {k : Nat} (hk : k < 31) : RR (pv_X0 L xs) d 132 0 [some (.ref 55), some (.int (jI k)), some (.int x), some (.int y), some (.long p), none, some (.long q), none, some (.int z), some (.int w)] [] (enc u) = some (none, enc (uA (uA (uA (uB (uB (uA (uA u 26 k x) 27 k y) 17 k p) 18 k q) 28 k z) 29 k w) 30 k 0)) := by
  simp only [B132_0, pv_ixn hk (show 31 < 1000000 by decide)]
theorem P_game (h : Inv u) : Both L xs 11 127 [some (.ref 0), some (.int x), some (.int y), some (.long p), none, some (.long q), none, some (.int z), some (.int w), none] [some (.ref 55), some (.int x), some (.int y), some (.long p), none, some (.long q), none, some (.int z), some (.int w)] u := by
  have h0 := h
  obtain ⟨⟨b1, b2, b3, b4, b5, b6, b7, b8, b9, b10⟩, ⟨g1, g2⟩, ⟨f1, f2⟩, ⟨t1, t2, t3⟩, ⟨p1, p2, p3⟩, hL, ⟨k1, k2, k3⟩⟩ := h
  have n1 : 0 ≤ (gI u 1).toInt := by omega
  have n15 : 0 ≤ (gI u 15).toInt := by rw [← b1]; omega

  by_cases q1 : twoOk (gI u 1) x y
  case neg =>
    refine ⟨.int (-1), u, u, ?_, ?_, h0, rfl⟩
    · simp only [B11_0, C_two, C_score, C_day, C_weight, B11_9, B11_18, B11_26, B11_34, B11_42, reduceIte, e10, pv_bd_some, Option.toList_some, Option.toList_none, List.cons_append, List.nil_append, List.append_nil, ite01, if_neg q1]
    · simp only [B127_0, M_two n15, M_score, M_day, M_isInI, B127_6, B127_15, B127_23, B127_31, B127_44, reduceIte, e10, pv_bd_some, Option.toList_some, Option.toList_none, List.cons_append, List.nil_append, List.append_nil, ite01, ← b1, ← b3, z0, z1, z2, z3, z4, z5, z6, z7, z12, z20, z30, z99, y0, y1, y2, y3, y6, y7, y99, y15, if_neg q1]
  by_cases q2 : scOk p
  case neg =>
    refine ⟨.int (-2), u, u, ?_, ?_, h0, rfl⟩
    · simp only [B11_0, C_two, C_score, C_day, C_weight, B11_9, B11_18, B11_26, B11_34, B11_42, reduceIte, e10, pv_bd_some, Option.toList_some, Option.toList_none, List.cons_append, List.nil_append, List.append_nil, ite01, if_pos q1, if_neg q2]
    · simp only [B127_0, M_two n15, M_score, M_day, M_isInI, B127_6, B127_15, B127_23, B127_31, B127_44, reduceIte, e10, pv_bd_some, Option.toList_some, Option.toList_none, List.cons_append, List.nil_append, List.append_nil, ite01, ← b1, ← b3, z0, z1, z2, z3, z4, z5, z6, z7, z12, z20, z30, z99, y0, y1, y2, y3, y6, y7, y99, y15, if_pos q1, if_neg q2]
  by_cases q3 : scOk q
  case neg =>
    refine ⟨.int (-2), u, u, ?_, ?_, h0, rfl⟩
    · simp only [B11_0, C_two, C_score, C_day, C_weight, B11_9, B11_18, B11_26, B11_34, B11_42, reduceIte, e10, pv_bd_some, Option.toList_some, Option.toList_none, List.cons_append, List.nil_append, List.append_nil, ite01, if_pos q1, if_pos q2, if_neg q3]
    · simp only [B127_0, M_two n15, M_score, M_day, M_isInI, B127_6, B127_15, B127_23, B127_31, B127_44, reduceIte, e10, pv_bd_some, Option.toList_some, Option.toList_none, List.cons_append, List.nil_append, List.append_nil, ite01, ← b1, ← b3, z0, z1, z2, z3, z4, z5, z6, z7, z12, z20, z30, z99, y0, y1, y2, y3, y6, y7, y99, y15, if_pos q1, if_pos q2, if_neg q3]
  by_cases q4 : dyOk z
  case neg =>
    refine ⟨.int (-2), u, u, ?_, ?_, h0, rfl⟩
    · simp only [B11_0, C_two, C_score, C_day, C_weight, B11_9, B11_18, B11_26, B11_34, B11_42, reduceIte, e10, pv_bd_some, Option.toList_some, Option.toList_none, List.cons_append, List.nil_append, List.append_nil, ite01, if_pos q1, if_pos q2, if_pos q3, if_neg q4]
    · simp only [B127_0, M_two n15, M_score, M_day, M_isInI, B127_6, B127_15, B127_23, B127_31, B127_44, reduceIte, e10, pv_bd_some, Option.toList_some, Option.toList_none, List.cons_append, List.nil_append, List.append_nil, ite01, ← b1, ← b3, z0, z1, z2, z3, z4, z5, z6, z7, z12, z20, z30, z99, y0, y1, y2, y3, y6, y7, y99, y15, if_pos q1, if_pos q2, if_pos q3, if_neg q4]
  by_cases q5 : wtOk w
  case neg =>
    refine ⟨.int (-2), u, u, ?_, ?_, h0, rfl⟩
    · simp only [B11_0, C_two, C_score, C_day, C_weight, B11_9, B11_18, B11_26, B11_34, B11_42, reduceIte, e10, pv_bd_some, Option.toList_some, Option.toList_none, List.cons_append, List.nil_append, List.append_nil, ite01, if_pos q1, if_pos q2, if_pos q3, if_pos q4, if_neg q5]
    · simp only [B127_0, M_two n15, M_score, M_day, M_isInI, B127_6, B127_15, B127_23, B127_31, B127_44, reduceIte, e10, pv_bd_some, Option.toList_some, Option.toList_none, List.cons_append, List.nil_append, List.append_nil, ite01, ← b1, ← b3, z0, z1, z2, z3, z4, z5, z6, z7, z12, z20, z30, z99, y0, y1, y2, y3, y6, y7, y99, y15, if_pos q1, if_pos q2, if_pos q3, if_pos q4, if_neg q5]
  by_cases q6 : (gI u 2).toInt < 30
  case neg =>
    have e : gI u 2 = 30 := Int32.toInt_inj.mp (by rw [z30]; omega)
    refine ⟨.int (-4), u, u, ?_, ?_, h0, rfl⟩
    · simp only [B11_0, C_two, C_score, C_day, C_weight, B11_9, B11_18, B11_26, B11_34, B11_42, reduceIte, e10, pv_bd_some, Option.toList_some, Option.toList_none, List.cons_append, List.nil_append, List.append_nil, ite01, if_pos q1, if_pos q2, if_pos q3, if_pos q4, if_pos q5]
      rw [e]
      rfl
    · simp only [B127_0, M_two n15, M_score, M_day, M_isInI, B127_6, B127_15, B127_23, B127_31, B127_44, reduceIte, e10, pv_bd_some, Option.toList_some, Option.toList_none, List.cons_append, List.nil_append, List.append_nil, ite01, ← b1, ← b3, z0, z1, z2, z3, z4, z5, z6, z7, z12, z20, z30, z99, y0, y1, y2, y3, y6, y7, y99, y15, if_pos q1, if_pos q2, if_pos q3, if_pos q4, if_pos q5]
      rw [e]
      rfl
  have ek : gI u 2 = jI (gI u 2).toInt.toNat := i32_nat b4.1
  have hk : (gI u 2).toInt.toNat < 30 := by omega
  have hk1 : (gI u 2).toInt.toNat = (gI u 2).toInt := by omega
  generalize hK : (gI u 2).toInt.toNat = K at *
  have e30 : ¬ jI K = 30 := fun e => by
    have := congrArg Int32.toInt e
    rw [jI_toInt (by omega), z30] at this
    omega
  have eK : (jI (K + 1)).toInt = K + 1 := by rw [jI_toInt (by omega)]; rfl
  have ek2 := ek.symm.trans b3
  refine ⟨.int (jI K), uI (uA (uA (uA (uB (uB (uA (uA u 0 K x) 1 K y) 0 K p) 1 K q) 2 K z) 3 K w) 4 K 0) 2 (jI (K + 1)), uI (uA (uA (uA (uB (uB (uA (uA (uI (uA (uA (uA (uB (uB (uA (uA u 0 K x) 1 K y) 0 K p) 1 K q) 2 K z) 3 K w) 4 K 0) 2 (jI (K + 1))) 26 K x) 27 K y) 17 K p) 18 K q) 28 K z) 29 K w) 30 K 0) 16 (jI (K + 1)), ?_, ?_, ?_, rfl⟩
  · simp only [B11_0, C_two, C_score, C_day, C_weight, B11_9, B11_18, B11_26, B11_34, B11_42, reduceIte, e10, pv_bd_some, Option.toList_some, Option.toList_none, List.cons_append, List.nil_append, List.append_nil, ite01, if_pos q1, if_pos q2, if_pos q3, if_pos q4, if_pos q5]
    rw [if_pos (by rw [Int32.lt_iff_toInt_lt, z30]; omega), ek, C_put (by omega), pv_bd_some]
    refine B11_90.trans ?_
    simp only [gI_uI, gI_uJ, gI_uA, gI_uB, gJ_uI, gJ_uJ, gJ_uA, gJ_uB, gA_uI, gA_uJ, gA_uA, gA_uB, gB_uI, gB_uJ, gB_uA, gB_uB, Nat.reduceEqDiff, reduceIte]
    rw [ek, jI_succ]
  · simp only [B127_0, M_two, n1, M_score, M_day, M_isInI, B127_6, B127_15, B127_23, B127_31, B127_44, reduceIte, e10, pv_bd_some, Option.toList_some, Option.toList_none, List.cons_append, List.nil_append, List.append_nil, ite01, if_pos q1, if_pos q2, if_pos q3, if_pos q4, if_pos q5, ← b1, ← b3, gI_uI, gI_uJ, gI_uA, gI_uB, gJ_uI, gJ_uJ, gJ_uA, gJ_uB, gA_uI, gA_uJ, gA_uA, gA_uB, gB_uI, gB_uJ, gB_uA, gB_uB, z0, z1, z2, z3, z4, z5, z6, z7, z12, z20, z30, z99, y0, y1, y2, y3, y6, y7, y99, y15, Nat.reduceEqDiff, ek, e30]

    rw [M_puts (by omega), pv_bd_some]
    refine B127_79.trans ?_
    simp only [gI_uI, gI_uJ, gI_uA, gI_uB, gJ_uI, gJ_uJ, gJ_uA, gJ_uB, gA_uI, gA_uJ, gA_uA, gA_uB, gB_uI, gB_uJ, gB_uA, gB_uB, Nat.reduceEqDiff, reduceIte, ← ek2, jI_succ]
    rw [← jI_succ, Int32.add_sub_cancel]
  · simp only [Inv, invB, invG, invF, invT, invP, invL, invL1, invK, gI_uI, gI_uJ, gI_uA, gI_uB, gJ_uI, gJ_uJ, gJ_uA, gJ_uB, gA_uI, gA_uJ, gA_uA, gA_uB, gB_uI, gB_uJ, gB_uA, gB_uB] at *
    simp only [Nat.reduceEqDiff, reduceIte]
    rw [eK]
    refine ⟨⟨b1, b2, trivial, ⟨by omega, by omega⟩, b5, b6, b7, b8, b9, b10⟩, ⟨fun k => ?_, fun k hk hq => ?_⟩, ⟨f1, f2⟩, ⟨t1, t2, t3⟩, ⟨p1, p2, p3⟩, hL, ⟨⟨k1.1, fun j hj => ⟨?_, (k1.2 j hj).2⟩⟩, k2, k3⟩⟩
    · obtain ⟨g11, g12, g13, g14, g15, g16, g17⟩ := g1 k
      rw [g11, g12, g13, g14, g15, g16, g17]
      exact ⟨rfl, rfl, rfl, rfl, rfl, rfl, rfl⟩
    · by_cases e : k = K
      · simp only [if_pos e]
        exact ⟨q1.1.1, q1.1.2, q1.2.1.1, q1.2.1.2, q1.2.2, q2, q3, q4, q5, by decide, by decide⟩
      · simp only [if_neg e]
        refine g2 k hk (hq.imp (fun q => ?_) id)
        omega
    · split
      · exact ⟨by decide, by decide⟩
      · exact (k1.2 j hj).1
end OPS3
