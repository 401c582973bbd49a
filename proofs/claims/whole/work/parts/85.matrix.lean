/-! matrix, right (printed by wip/whole/ops/pp.py) -/
section MATRIX
variable {L : Nat} {xs : Nat → Int32} {u v a b : pv_U} {d k n N i j : Nat} {x y z w m day lo : Int32} {wg : Bool}
theorem rows_ctx (h : Inv u) : ∃ n N, 2 ≤ n ∧ n ≤ 6 ∧ N ≤ 30 ∧ gI u 1 = jI n ∧ gI u 2 = jI N ∧ gI u 15 = jI n ∧ gI u 16 = jI N := by
  obtain ⟨b1, b2, b3, b4, _⟩ := h.1
  have e1 := i32_nat (show 0 ≤ (gI u 1).toInt by omega)
  have e2 := i32_nat b4.1
  exact ⟨(gI u 1).toInt.toNat, (gI u 2).toInt.toNat, by omega, by omega, by omega, e1, e2, b1 ▸ e1, b3 ▸ e2⟩
theorem hg_of (h : Inv u) (hn6 : n ≤ 6) (h30 : N ≤ 30) (hn : gI u 1 = jI n) (hN : gI u 2 = jI N) (hw : wg = true → gI u 4 = 1) : hgP u n (cW u N day lo wg) := by
  intro g hg hc
  have hc' := of_decide_eq_true hc
  have eN : (gI u 2).toInt = N := by rw [hN, jI_toInt (by omega)]
  have en : (gI u 1).toInt = n := by rw [hn, jI_toInt (by omega)]
  have ok := h.2.1.2 g hg (hc'.elim (fun q => Or.inl (by omega)) (fun q => Or.inr ⟨q.1, hw q.2⟩))
  obtain ⟨w1, w2, w3, w4, w5, w6, w7, w8, w9, v1⟩ := ok
  have eh := i32_nat w1
  have ea := i32_nat w3
  have ew := i32_nat (show 0 ≤ (gA u 3 g).toInt by omega)
  refine ⟨_, _, _, ?_, ?_, ?_, eh, ea, ew, ?_⟩
  · omega
  · omega
  · intro q
    exact w5 (by rw [eh, ea, q])
  · omega
theorem C_asOf (h : Inv u) (h2n : 2 ≤ n) (hn6 : n ≤ 6) (h30 : N ≤ 30) (hn : gI u 1 = jI n) (hN : gI u 2 = jI N) : ∃ b, RR (pv_X0 L xs) (d + 4) 29 0 [some (.ref 0), some (.int m), some (.int day)] [] (enc u) = some (none, enc b) ∧ RC u b n (blT m) (mT u (cW u N day (-1) false)) (pT u (cW u N day (-1) false)) (MI (decide (m = 1)) n (mT u (cW u N day (-1) false)) (pT u (cW u N day (-1) false))) (RV (decide (m = 1)) n (rT u m (cW u N day (-1) false))) := by
  obtain ⟨b, h1, h2⟩ := C_gather (L := L) (xs := xs) (d := d) (m := m) (day := day) (lo := -1) hN h30 hn h2n hn6 (wg := false) (hg_of h hn6 h30 hn hN (fun q => nomatch q))
  refine ⟨b, ?_, h2⟩
  have h1' : RR (pv_X0 L xs) (d + 3) 30 0 [some (.ref 22), some (.ref 1), some (.int m), some (.int day), some (.int (-1)), some (.int 0), none, none] [] (enc u) = some (none, enc b) := h1
  rw [B29_0, h1', pv_bd_some]
  exact B29_15
theorem M_asOf (h : Inv u) (s : scr u v) (h2n : 2 ≤ n) (hn6 : n ≤ 6) (h30 : N ≤ 30) (hn : gI u 1 = jI n) (hN : gI u 2 = jI N) (hn' : gI u 15 = jI n) (hN' : gI u 16 = jI N) : ∃ b, RR (pv_X0 L xs) (d + 2) 141 0 [some (.ref 55), some (.int m), some (.int day), some (.int (-1)), some (.int 0), none, none] [] (enc v) = some (none, enc b) ∧ RM v b n (blT m) (mT u (cW u N day (-1) false)) (MI (decide (m = 1)) n (mT u (cW u N day (-1) false)) (pT u (cW u N day (-1) false))) (RV (decide (m = 1)) n (rT u m (cW u N day (-1) false))) :=
  M_lays (L := L) (xs := xs) (d := d) (m := m) (day := day) (lo := -1) (wg := false) ((s.1 16 (by decide)).trans hN') h30 ((s.1 15 (by decide)).trans hn') h2n hn6 (sameR_of h s) (hg_of h hn6 h30 hn hN (fun q => nomatch q))
theorem tm_at (hn6 : n ≤ 6) (h : tmOk (jI n) x) : ∃ i, i < n ∧ x = jI i := by
  have e := i32_nat h.1
  have h2 := h.2
  rw [jI_toInt (by omega)] at h2
  exact ⟨x.toInt.toNat, by omega, e⟩
theorem P_matrix (h : Inv u) : Both L xs 27 139 [some (.ref 0), some (.int x), some (.int y), some (.int z), some (.int w)] [some (.ref 55), some (.int x), some (.int y), some (.int z), some (.int w)] u := by
  have h0 := h
  obtain ⟨n, N, h2n, hn6, h30, hn, hN, hn', hN'⟩ := rows_ctx h
  obtain ⟨⟨b1, b2, b3, b4, b5, b6, b7, b8, b9, b10⟩, ⟨g1, g2⟩, ⟨f1, f2⟩, ⟨t1, t2, t3⟩, ⟨p1, p2, p3⟩, hL, ⟨k1, k2, k3⟩⟩ := h
  have n15 : 0 ≤ (gI u 15).toInt := by rw [← b1]; omega
  by_cases q1 : asOk x y
  case neg =>
    refine ⟨.long (-9223372036854775808), u, u, ?_, ?_, h0, rfl⟩
    · simp only [B27_0, C_asked, C_team, B27_5, B27_16, B27_28, reduceIte, e10, pv_bd_some, Option.toList_some, Option.toList_none, List.cons_append, List.nil_append, List.append_nil, ite01, if_neg q1]
    · simp only [B139_0, M_asked, M_team n15, B139_5, B139_13, B139_22, reduceIte, e10, pv_bd_some, Option.toList_some, Option.toList_none, List.cons_append, List.nil_append, List.append_nil, ite01, ← b1, ← b3, z0, z1, z2, z3, z4, z5, z6, z7, z12, z20, z30, z99, y0, y1, y2, y3, y6, y7, y99, y15, if_neg q1]
  by_cases q2 : tmOk (gI u 1) z
  case neg =>
    refine ⟨.long (-9223372036854775808), u, u, ?_, ?_, h0, rfl⟩
    · simp only [B27_0, C_asked, C_team, B27_5, B27_16, B27_28, reduceIte, e10, pv_bd_some, Option.toList_some, Option.toList_none, List.cons_append, List.nil_append, List.append_nil, ite01, if_pos q1, if_neg q2]
    · simp only [B139_0, M_asked, M_team n15, B139_5, B139_13, B139_22, reduceIte, e10, pv_bd_some, Option.toList_some, Option.toList_none, List.cons_append, List.nil_append, List.append_nil, ite01, ← b1, ← b3, z0, z1, z2, z3, z4, z5, z6, z7, z12, z20, z30, z99, y0, y1, y2, y3, y6, y7, y99, y15, if_pos q1, if_neg q2]
  by_cases q3 : tmOk (gI u 1) w
  case neg =>
    refine ⟨.long (-9223372036854775808), u, u, ?_, ?_, h0, rfl⟩
    · simp only [B27_0, C_asked, C_team, B27_5, B27_16, B27_28, reduceIte, e10, pv_bd_some, Option.toList_some, Option.toList_none, List.cons_append, List.nil_append, List.append_nil, ite01, if_pos q1, if_pos q2, if_neg q3]
    · simp only [B139_0, M_asked, M_team n15, B139_5, B139_13, B139_22, reduceIte, e10, pv_bd_some, Option.toList_some, Option.toList_none, List.cons_append, List.nil_append, List.append_nil, ite01, ← b1, ← b3, z0, z1, z2, z3, z4, z5, z6, z7, z12, z20, z30, z99, y0, y1, y2, y3, y6, y7, y99, y15, if_pos q1, if_pos q2, if_neg q3]
  obtain ⟨c1, hc1, sc1, _, _, fc1⟩ := C_asOf (L := L) (xs := xs) (d := 94) (m := x) (day := y) h0 h2n hn6 h30 hn hN
  obtain ⟨c2, hc2, sc2, _, fc2⟩ := M_asOf (L := L) (xs := xs) (d := 96) (m := x) (day := y) h0 sc1 h2n hn6 h30 hn hN hn' hN'
  have e15 : gI c1 15 = gI u 15 := sc1.1 15 (by decide)
  have e15' : gI c1 15 = gI u 1 := e15.trans b1.symm
  obtain ⟨i, hi, ei⟩ := tm_at hn6 (hn ▸ q2)
  obtain ⟨j, hj, ej⟩ := tm_at hn6 (hn ▸ q3)
  refine ⟨.long (gB c1 (4 + i) j), c1, c2, ?_, ?_, Inv_scr h0 (scr_trans sc1 sc2), rfl⟩
  · simp only [B27_0, C_asked, C_team, B27_5, B27_16, B27_28, reduceIte, e10, pv_bd_some, Option.toList_some, Option.toList_none, List.cons_append, List.nil_append, List.append_nil, ite01, if_pos q1, if_pos q2, if_pos q3, hc1]
    rw [B27_41, ei, ej, B27_49 (show i < 6 by omega), pv_ixn (by omega) (by decide)]
  · simp only [B139_0, M_asked, M_team (e15 ▸ n15), B139_5, B139_13, B139_22, reduceIte, e10, pv_bd_some, Option.toList_some, Option.toList_none, List.cons_append, List.nil_append, List.append_nil, ite01, e15', if_pos q1, if_pos q2, if_pos q3, hc2]
    have i1 : (6 : Int32) * jI i + jI j = jI (6 * i + j) := by
      show jI 6 * jI i + jI j = _
      rw [jI_mul, jI_add]
    rw [B139_37, ei, ej, i1, pv_ixn (by omega) (by decide), ((fc2 i hi).2 j hj).2, ((fc1 i hi).2.2 j hj).2]
theorem P_right (h : Inv u) : Both L xs 34 146 [some (.ref 0), some (.int x), some (.int y), some (.int z)] [some (.ref 55), some (.int x), some (.int y), some (.int z)] u := by
  have h0 := h
  obtain ⟨n, N, h2n, hn6, h30, hn, hN, hn', hN'⟩ := rows_ctx h
  obtain ⟨⟨b1, b2, b3, b4, b5, b6, b7, b8, b9, b10⟩, ⟨g1, g2⟩, ⟨f1, f2⟩, ⟨t1, t2, t3⟩, ⟨p1, p2, p3⟩, hL, ⟨k1, k2, k3⟩⟩ := h
  have n15 : 0 ≤ (gI u 15).toInt := by rw [← b1]; omega
  by_cases q1 : asOk x y
  case neg =>
    refine ⟨.long (-9223372036854775808), u, u, ?_, ?_, h0, rfl⟩
    · simp only [B34_0, C_asked, C_team, B34_5, B34_16, reduceIte, e10, pv_bd_some, Option.toList_some, Option.toList_none, List.cons_append, List.nil_append, List.append_nil, ite01, if_neg q1]
    · simp only [B146_0, M_asked, M_team n15, B146_5, B146_13, reduceIte, e10, pv_bd_some, Option.toList_some, Option.toList_none, List.cons_append, List.nil_append, List.append_nil, ite01, ← b1, ← b3, z0, z1, z2, z3, z4, z5, z6, z7, z12, z20, z30, z99, y0, y1, y2, y3, y6, y7, y99, y15, if_neg q1]
  by_cases q2 : tmOk (gI u 1) z
  case neg =>
    refine ⟨.long (-9223372036854775808), u, u, ?_, ?_, h0, rfl⟩
    · simp only [B34_0, C_asked, C_team, B34_5, B34_16, reduceIte, e10, pv_bd_some, Option.toList_some, Option.toList_none, List.cons_append, List.nil_append, List.append_nil, ite01, if_pos q1, if_neg q2]
    · simp only [B146_0, M_asked, M_team n15, B146_5, B146_13, reduceIte, e10, pv_bd_some, Option.toList_some, Option.toList_none, List.cons_append, List.nil_append, List.append_nil, ite01, ← b1, ← b3, z0, z1, z2, z3, z4, z5, z6, z7, z12, z20, z30, z99, y0, y1, y2, y3, y6, y7, y99, y15, if_pos q1, if_neg q2]
  obtain ⟨c1, hc1, sc1, _, _, fc1⟩ := C_asOf (L := L) (xs := xs) (d := 94) (m := x) (day := y) h0 h2n hn6 h30 hn hN
  obtain ⟨c2, hc2, sc2, _, fc2⟩ := M_asOf (L := L) (xs := xs) (d := 96) (m := x) (day := y) h0 sc1 h2n hn6 h30 hn hN hn' hN'
  have e15 : gI c1 15 = gI u 15 := sc1.1 15 (by decide)
  have e15' : gI c1 15 = gI u 1 := e15.trans b1.symm
  obtain ⟨i, hi, ei⟩ := tm_at hn6 (hn ▸ q2)
  refine ⟨.long (gB c1 10 i), c1, c2, ?_, ?_, Inv_scr h0 (scr_trans sc1 sc2), rfl⟩
  · simp only [B34_0, C_asked, C_team, B34_5, B34_16, reduceIte, e10, pv_bd_some, Option.toList_some, Option.toList_none, List.cons_append, List.nil_append, List.append_nil, ite01, if_pos q1, if_pos q2, hc1]
    rw [B34_29, ei, pv_ixn (by omega) (by decide)]
  · simp only [B146_0, M_asked, M_team (e15 ▸ n15), B146_5, B146_13, reduceIte, e10, pv_bd_some, Option.toList_some, Option.toList_none, List.cons_append, List.nil_append, List.append_nil, ite01, e15', if_pos q1, if_pos q2, hc2]
    rw [B146_28, ei, pv_ixn (by omega) (by decide), (fc2 i hi).1, (fc1 i hi).2.1]
end MATRIX
