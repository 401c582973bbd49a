/-! predict, against (printed by wip/whole/ops/pp.py) -/
section PREDICT
variable {L : Nat} {xs : Nat → Int32} {u v a b c : pv_U} {d k n N i j r q S C : Nat} {x y z w m day lo w4 : Int32} {M : Nat → Nat → Int} {bl det : Int64} {mt : Nat → Nat → Nat} {pl : Nat → Nat} {R : Nat → Int64} {s t : Int64}
theorem M_solvesA (h : Inv u) (s : scr u v) (h2n : 2 ≤ n) (hn6 : n ≤ 6) (h30 : N ≤ 30) (hn : gI u 1 = jI n) (hN : gI u 2 = jI N) (hn' : gI u 15 = jI n) (hN' : gI u 16 = jI N) : ∃ b, RR (pv_X0 L xs) (d + 3) 153 0 [some (.ref 55), some (.int m), some (.int day), some (.int (-1)), some (.int 0), none, none, none, none, none, none] [] (enc v) = some (none, enc b) ∧ RM v b n (blT m) (mT u (cW u N day (-1) false)) (MI (decide (m = 1)) n (mT u (cW u N day (-1) false)) (pT u (cW u N day (-1) false))) (RV (decide (m = 1)) n (rT u m (cW u N day (-1) false))) ∧ gJ b 5 = Int64.ofInt (dtm (MI (decide (m = 1)) n (mT u (cW u N day (-1) false)) (pT u (cW u N day (-1) false))) n) ∧ topsM b (MI (decide (m = 1)) n (mT u (cW u N day (-1) false)) (pT u (cW u N day (-1) false))) (RV (decide (m = 1)) n (rT u m (cW u N day (-1) false))) n n :=
  M_solves (L := L) (xs := xs) (d := d) (m := m) (day := day) (lo := -1) (wg := false) ((s.1 16 (by decide)).trans hN') h30 ((s.1 15 (by decide)).trans hn') h2n hn6 (sameR_of h s) (hg_of h hn6 h30 hn hN (fun q => nomatch q))
theorem M_any (hn : gI b 15 = jI n) (hn6 : n ≤ 6) (h : topsM b M R n n) : RR (pv_X0 L xs) d 160 0 [some (.ref 55), none, none] [] (enc b) = some (some (.int (cond (anyN (tpO M R n) n) 1 0)), enc b) := by
  obtain ⟨t, h1, -⟩ := pv_loop (R := fun k (_ : Unit) => RR (pv_X0 L xs) d 160 4 [some (.ref 55), some (.int (cond (anyN (tpO M R n) k) 1 0)), some (.int (jI k))] [] (enc b)) (P := fun _ _ => True) (N := n) (fun k t hk _ => by
    refine ⟨(), ?_, trivial⟩
    show RR (pv_X0 L xs) d 160 4 _ _ _ = RR (pv_X0 L xs) d 160 4 [some (.ref 55), some (.int (cond (anyN (tpO M R n) k || tpO M R n k) 1 0)), some (.int (jI (k + 1)))] [] (enc b)
    rw [B160_4, hn, if_neg (jI_run hk (by omega)), jI_succ]
    cases anyN (tpO M R n) k with
    | true => rw [if_neg (show ¬ cond true (1 : Int32) 0 = 0 by decide), Bool.true_or]; rfl
    | false =>
      rw [if_pos (show cond false (1 : Int32) 0 = 0 from rfl), pv_ixn (by omega) (by decide), (h k hk).2, Bool.false_or]
      cases tpO M R n k with
      | true => rw [if_neg (show ¬ cond true (1 : Int32) 0 = 0 by decide)]; rfl
      | false => rw [if_pos (show cond false (1 : Int32) 0 = 0 from rfl)]; rfl) (a0 := ()) trivial
  rw [B160_0]
  refine h1.trans ?_
  show RR (pv_X0 L xs) d 160 4 _ _ _ = _
  rw [B160_4, hn, if_pos jI_end]
  cases anyN (tpO M R n) n <;> rfl
theorem M_against (hn : gI b 15 = jI n) (hn6 : n ≤ 6) (h : topsM b M R n n) (h5 : gJ b 5 = Int64.ofInt (dtm M n)) : RR (pv_X0 L xs) (d + 1) 159 0 [some (.ref 55)] [] (enc b) = some (some (.int (slA M R n)), enc b) := by
  rw [B159_0, h5]
  unfold slA
  by_cases q : Int64.ofInt (dtm M n) = 0
  · rw [if_pos (lg_eq.mpr q), if_pos q]
  · rw [if_neg (fun e => q (lg_eq.mp e)), if_neg q, M_any hn hn6 h, pv_bd_some]
    simp only [Option.toList_some, List.cons_append, List.nil_append]
    rw [B159_18]
    cases anyN (tpO M R n) n <;> rfl
/-- what predict answers -/
def pdA (M : Nat → Nat → Int) (R : Nat → Int64) (n i j : Nat) (z w : Int32) : Int32 := if Int64.ofInt (dtm M n) = 0 then -3 else if tpO M R n i = true then -6 else if tpO M R n j = true then -6 else if tpV M R n i = tpV M R n j then -5 else if tpV M R n j < tpV M R n i then z else w
theorem C_greater (hi : i < n) (hj : j < n) (hn6 : n ≤ 6) (e1 : gB a 11 i = tpV M R n i) (e2 : gB a 11 j = tpV M R n j) : RR (pv_X0 L xs) d 55 0 [some (.ref 22), some (.int (jI i)), some (.int (jI j))] [] (enc a) = some (some (.int (if tpV M R n i = tpV M R n j then -5 else if tpV M R n j < tpV M R n i then jI i else jI j)), enc a) := by
  rw [B55_0, pv_ixn (by omega) (by decide), pv_ixn (by omega) (by decide), pv_ixn (by omega) (by decide), pv_ixn (by omega) (by decide), e1, e2]
  by_cases q1 : tpV M R n i = tpV M R n j
  · rw [if_pos (lg_eq.mpr q1), if_pos q1]
  · rw [if_neg (fun e => q1 (lg_eq.mp e)), if_neg q1]
    by_cases q2 : tpV M R n j < tpV M R n i
    · rw [if_neg (fun e => lg_le.mp e q2), if_pos q2]
    · rw [if_pos (lg_le.mpr q2), if_neg q2]
theorem M_predict (hn : gI b 15 = jI n) (hn6 : n ≤ 6) (hi : i < n) (hj : j < n) (h : topsM b M R n n) (h5 : gJ b 5 = Int64.ofInt (dtm M n)) : RR (pv_X0 L xs) d 165 28 [some (.ref 55), some (.int x), some (.int y), some (.int (jI i)), some (.int (jI j))] [] (enc b) = some (some (.int (pdA M R n i j (jI i) (jI j))), enc b) := by
  rw [B165_28, h5]
  unfold pdA
  by_cases q : Int64.ofInt (dtm M n) = 0
  · rw [if_pos (lg_eq.mpr q), if_pos q]
  rw [if_neg (fun e => q (lg_eq.mp e)), if_neg q, pv_ixn (by omega) (by decide), (h i hi).2]
  cases q1 : tpO M R n i with
  | true => rw [if_neg (show ¬ cond true (1 : Int32) 0 = 0 by decide), if_pos rfl]
  | false =>
    rw [if_pos (show cond false (1 : Int32) 0 = 0 from rfl), if_neg Bool.false_ne_true, pv_ixn (by omega) (by decide), (h j hj).2]
    cases q2 : tpO M R n j with
    | true => rw [if_neg (show ¬ cond true (1 : Int32) 0 = 0 by decide), if_pos rfl]
    | false =>
      rw [if_pos (show cond false (1 : Int32) 0 = 0 from rfl), if_neg Bool.false_ne_true, pv_ixn (by omega) (by decide), pv_ixn (by omega) (by decide), pv_ixn (by omega) (by decide), pv_ixn (by omega) (by decide), (h i hi).1, (h j hj).1, q1, q2]
      show (if lg_cmp (tpV M R n i) (tpV M R n j) = 0 then _ else if lg_cmp (tpV M R n i) (tpV M R n j) ≤ 0 then _ else _) = _
      by_cases q1 : tpV M R n i = tpV M R n j
      · rw [if_pos (lg_eq.mpr q1), if_pos q1]
      · rw [if_neg (fun e => q1 (lg_eq.mp e)), if_neg q1]
        by_cases q2 : tpV M R n j < tpV M R n i
        · rw [if_neg (fun e => lg_le.mp e q2), if_pos q2]
        · rw [if_pos (lg_le.mpr q2), if_neg q2]
theorem C_predict (hr : RC u a n bl mt pl M R) (h2n : 2 ≤ n) (hn6 : n ≤ 6) (hi : i < n) (hj : j < n) (hij : ¬ i = j) : ∃ b, RR (pv_X0 L xs) (d + 4) 54 29 [some (.ref 0), some (.int x), some (.int y), some (.int (jI i)), some (.int (jI j))] [] (enc a) = some (some (.int (pdA M R n i j (jI i) (jI j))), enc b) ∧ scr u b := by
  obtain ⟨b1, p1, p2⟩ := C_det (L := L) (xs := xs) (d := d + 1) hr hn6
  have r1 := RC_mfr hr hn6 p2
  have st : ∀ q, RR (pv_X0 L xs) (d + 4) 54 36 [some (.ref 0), some (.int x), some (.int y), some (.int (jI i)), some (.int (jI j))] [.long (Int64.ofInt (dtm M n))] (enc b1) = q → RR (pv_X0 L xs) (d + 4) 54 29 [some (.ref 0), some (.int x), some (.int y), some (.int (jI i)), some (.int (jI j))] [] (enc a) = q := fun q hq => by
    show RR (pv_X0 L xs) (d + 3 + 1) 54 29 _ _ _ = _
    rw [B54_29, p1, pv_bd_some]
    exact hq
  unfold pdA
  by_cases q : Int64.ofInt (dtm M n) = 0
  · refine ⟨b1, st _ ?_, r1.1⟩
    rw [B54_36, if_pos (lg_eq.mpr q), if_pos q]
  rw [if_neg q]
  obtain ⟨b2, f1, f2, f3, f4, f5⟩ := C_findTop (L := L) (xs := xs) (d := d) r1 h2n hn6 hi
  cases q1 : tpO M R n i with
  | true =>
    refine ⟨b2, st _ ?_, f2.1⟩
    show RR (pv_X0 L xs) (d + 3 + 1) 54 36 _ _ _ = _
    rw [B54_36, if_neg (fun e => q (lg_eq.mp e)), f1, q1, pv_bd_some]
    simp only [Option.toList_some, List.cons_append, List.nil_append]
    rw [B54_52, if_pos (show cond true (0 : Int32) 1 = 0 from rfl)]
    rfl
  | false =>
    rw [if_neg Bool.false_ne_true]
    obtain ⟨b3, g1, g2, g3, g4, g5⟩ := C_findTop (L := L) (xs := xs) (d := d) f2 h2n hn6 hj
    have st2 : ∀ q, RR (pv_X0 L xs) (d + 4) 54 64 [some (.ref 0), some (.int x), some (.int y), some (.int (jI i)), some (.int (jI j))] [.int (cond (tpO M R n j) 0 1)] (enc b3) = q → RR (pv_X0 L xs) (d + 4) 54 29 [some (.ref 0), some (.int x), some (.int y), some (.int (jI i)), some (.int (jI j))] [] (enc a) = q := fun q' hq => st _ (by
      show RR (pv_X0 L xs) (d + 3 + 1) 54 36 _ _ _ = _
      rw [B54_36, if_neg (fun e => q (lg_eq.mp e)), f1, q1, pv_bd_some]
      simp only [Option.toList_some, List.cons_append, List.nil_append]
      rw [B54_52, if_neg (show ¬ cond false (0 : Int32) 1 = 0 by decide), g1, pv_bd_some]
      exact hq)
    refine ⟨b3, st2 _ ?_, g2.1⟩
    show RR (pv_X0 L xs) (d + 3 + 1) 54 64 _ _ _ = _
    rw [B54_64]
    cases q2 : tpO M R n j with
    | true => rw [if_pos (show cond true (0 : Int32) 1 = 0 from rfl), if_pos rfl]
    | false =>
      rw [if_neg (show ¬ cond false (0 : Int32) 1 = 0 by decide), if_neg Bool.false_ne_true, C_greater hi hj hn6 (show gB b3 11 i = _ from (g5 i hij).trans f3) g3, pv_bd_some]
      exact B54_80
theorem P_predict (h : Inv u) : Both L xs 54 165 [some (.ref 0), some (.int x), some (.int y), some (.int z), some (.int w)] [some (.ref 55), some (.int x), some (.int y), some (.int z), some (.int w)] u := by
  have h0 := h
  obtain ⟨n, N, h2n, hn6, h30, hn, hN, hn', hN'⟩ := rows_ctx h
  obtain ⟨⟨b1, b2, b3, b4, b5, b6, b7, b8, b9, b10⟩, ⟨g1, g2⟩, ⟨f1, f2⟩, ⟨t1, t2, t3⟩, ⟨p1, p2, p3⟩, hL, ⟨k1, k2, k3⟩⟩ := h
  have n15 : 0 ≤ (gI u 15).toInt := by rw [← b1]; omega
  by_cases q1 : asOk x y
  case neg =>
    refine ⟨.int (-1), u, u, ?_, ?_, h0, rfl⟩
    · simp only [B54_0, C_asked, C_two, B54_5, B54_18, reduceIte, e10, pv_bd_some, Option.toList_some, Option.toList_none, List.cons_append, List.nil_append, List.append_nil, ite01, if_neg q1]
    · simp only [B165_0, M_asked, M_two n15, B165_5, B165_15, reduceIte, e10, pv_bd_some, Option.toList_some, Option.toList_none, List.cons_append, List.nil_append, List.append_nil, ite01, ← b1, ← b3, z0, z1, z2, z3, z4, z5, z6, z7, z12, z20, z30, z99, y0, y1, y2, y3, y6, y7, y99, y15, if_neg q1]
  by_cases q2 : twoOk (gI u 1) z w
  case neg =>
    refine ⟨.int (-1), u, u, ?_, ?_, h0, rfl⟩
    · simp only [B54_0, C_asked, C_two, B54_5, B54_18, reduceIte, e10, pv_bd_some, Option.toList_some, Option.toList_none, List.cons_append, List.nil_append, List.append_nil, ite01, if_pos q1, if_neg q2]
    · simp only [B165_0, M_asked, M_two n15, B165_5, B165_15, reduceIte, e10, pv_bd_some, Option.toList_some, Option.toList_none, List.cons_append, List.nil_append, List.append_nil, ite01, ← b1, ← b3, z0, z1, z2, z3, z4, z5, z6, z7, z12, z20, z30, z99, y0, y1, y2, y3, y6, y7, y99, y15, if_pos q1, if_neg q2]
  obtain ⟨i, hi, ei⟩ := tm_at hn6 (hn ▸ q2.1)
  obtain ⟨j, hj, ej⟩ := tm_at hn6 (hn ▸ q2.2.1)
  have hij : ¬ i = j := fun e => q2.2.2 (by rw [ei, ej, e])
  obtain ⟨c1, hc1, rc1⟩ := C_asOf (L := L) (xs := xs) (d := 94) (m := x) (day := y) h0 h2n hn6 h30 hn hN
  obtain ⟨c1', hd1, sc1⟩ := C_predict (L := L) (xs := xs) (d := 95) (x := x) (y := y) rc1 h2n hn6 hi hj hij
  obtain ⟨c2, hc2, rc2, e5, tp⟩ := M_solvesA (L := L) (xs := xs) (d := 95) (m := x) (day := y) h0 sc1 h2n hn6 h30 hn hN hn' hN'
  have e15 : gI c1' 15 = gI u 15 := sc1.1 15 (by decide)
  have e15' : gI c1' 15 = gI u 1 := e15.trans b1.symm
  have hd2 := M_predict (L := L) (xs := xs) (d := 99) (x := x) (y := y) ((rc2.1.1 15 (by decide)).trans (e15.trans hn')) hn6 hi hj tp e5
  refine ⟨.int (pdA (MI (decide (x = 1)) n (mT u (cW u N y (-1) false)) (pT u (cW u N y (-1) false))) (RV (decide (x = 1)) n (rT u x (cW u N y (-1) false))) n i j (jI i) (jI j)), c1', c2, ?_, ?_, Inv_scr h0 (scr_trans sc1 rc2.1), rfl⟩
  · simp only [B54_0, C_asked, C_two, B54_5, B54_18, reduceIte, e10, pv_bd_some, Option.toList_some, Option.toList_none, List.cons_append, List.nil_append, List.append_nil, ite01, if_pos q1, if_pos q2, hc1]
    rw [ei, ej]
    exact hd1
  · simp only [B165_0, M_asked, M_two (e15 ▸ n15), B165_5, B165_15, reduceIte, e10, pv_bd_some, Option.toList_some, Option.toList_none, List.cons_append, List.nil_append, List.append_nil, ite01, e15', if_pos q1, if_pos q2, hc2]
    rw [ei, ej]
    exact hd2
end PREDICT
