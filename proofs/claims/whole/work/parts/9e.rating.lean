/-! rating, would, without (printed by wip/whole/ops/pp.py) -/
section RATING
variable {L : Nat} {xs : Nat → Int32} {u v a b c : pv_U} {d k n N i j r q S p l B : Nat} {x y z w e m day lo w4 x4 : Int32} {is1 : Bool} {M : Nat → Nat → Int} {bl s t : Int64} {mt : Nat → Nat → Nat} {pl : Nat → Nat} {R : Nat → Int64} {wg : Bool}
theorem ofI_in {x : Int} (h1 : -9223372036854775808 ≤ x) (h2 : x < 9223372036854775808) : (Int64.ofInt x).toInt = x := by
  rw [Int64.toInt_ofInt]
  exact bm64s h1 h2
theorem below_pos {D : Int} (h0 : 0 ≤ D) (h1 : D ≤ 602661150000000) (hn : ¬ Int64.ofInt D = 0) (hbl : bl = 1 ∨ bl = 2) (hp : 1 ≤ p) (hp2 : p ≤ 93) : 0 < (Int64.ofInt D * bl).toInt ∧ 0 < (Int64.ofInt D * bl * jL p).toInt := by
  have hD : ¬ D = 0 := fun q => hn (by rw [q]; rfl)
  have key : ∀ b : Int, 1 ≤ b → b ≤ 2 → 0 < (Int64.ofInt D * Int64.ofInt b).toInt ∧ 0 < (Int64.ofInt D * Int64.ofInt b * jL p).toInt := fun b hb1 hb2 => by
    have g : 1 ≤ D * b ∧ D * b ≤ 1205322300000000 := by
      rcases (show b = 1 ∨ b = 2 by omega) with e | e <;> subst e <;> omega
    refine ⟨?_, ?_⟩
    · rw [← Int64.ofInt_mul, ofI_in (by omega) (by omega)]
      omega
    · rw [← ofI_nat, ← Int64.ofInt_mul, ← Int64.ofInt_mul]
      have g2 : 1 * 1 ≤ (D * b) * (p : Int) := Int.mul_le_mul g.1 (by omega) (by omega) (by omega)
      have g3 : (D * b) * (p : Int) ≤ 1205322300000000 * 93 := Int.mul_le_mul g.2 (by omega) (by omega) (by omega)
      rw [ofI_in (by omega) (by omega)]
      omega
  rcases hbl with e | e
  · subst e
    exact key 1 (by omega) (by omega)
  · subst e
    exact key 2 (by omega) (by omega)
theorem rate_both (hr : RC u a n bl mt pl M R) (hbl : bl = 1 ∨ bl = 2) (h2n : 2 ≤ n) (hn6 : n ≤ 6) (hi : i < n) (h0 : 0 ≤ dtm M n) (h1 : dtm M n ≤ 602661150000000) : ∃ (b : pv_U) (ans : Int64), RR (pv_X0 L xs) (d + 4) 42 0 [some (.ref 22), some (.int (jI i)), some (.int x4), none, none] [] (enc a) = some (some (.long ans), enc b) ∧ scr u b ∧ ∀ (d : Nat) (v c : pv_U), RM v c n bl mt M R → gJ c 5 = Int64.ofInt (dtm M n) → topsM c M R n n → RR (pv_X0 L xs) (d + 1) 156 0 [some (.ref 55), some (.int (jI i)), some (.int x4)] [] (enc c) = some (some (.long ans), enc c) := by
  obtain ⟨a1, p1, p2⟩ := C_det (L := L) (xs := xs) (d := d + 1) hr hn6
  have r1 := RC_mfr hr hn6 p2
  have st : ∀ q, RR (pv_X0 L xs) (d + 4) 42 4 [some (.ref 22), some (.int (jI i)), some (.int x4), none, none] [.long (Int64.ofInt (dtm M n))] (enc a1) = q → RR (pv_X0 L xs) (d + 4) 42 0 [some (.ref 22), some (.int (jI i)), some (.int x4), none, none] [] (enc a) = q := fun q hq => by
    show RR (pv_X0 L xs) (d + 3 + 1) 42 0 _ _ _ = _
    rw [B42_0, p1, pv_bd_some]
    exact hq
  by_cases q : Int64.ofInt (dtm M n) = 0
  · refine ⟨a1, -9223372036854775808, st _ ?_, r1.1, fun d v c rc e5 tp => ?_⟩
    · show RR (pv_X0 L xs) (d + 3 + 1) 42 4 _ _ _ = _
      rw [B42_4, if_pos (lg_eq.mpr q)]
    · rw [B156_0, e5, if_pos (lg_eq.mpr q)]
      exact B156_43
  obtain ⟨b, f1, f2, f3, f4, f5⟩ := C_findTop (L := L) (xs := xs) (d := d) r1 h2n hn6 hi
  have st2 : ∀ q, RR (pv_X0 L xs) (d + 4) 42 16 [some (.ref 22), some (.int (jI i)), some (.int x4), some (.long (Int64.ofInt (dtm M n))), none] [.int (cond (tpO M R n i) 0 1)] (enc b) = q → RR (pv_X0 L xs) (d + 4) 42 0 [some (.ref 22), some (.int (jI i)), some (.int x4), none, none] [] (enc a) = q := fun q' hq => st _ (by
    show RR (pv_X0 L xs) (d + 3 + 1) 42 4 _ _ _ = _
    rw [B42_4, if_neg (fun e => q (lg_eq.mp e)), f1, pv_bd_some]
    exact hq)
  cases q1 : tpO M R n i with
  | true =>
    rw [q1] at st2
    refine ⟨b, -9223372036854775808, st2 _ ?_, f2.1, fun d v c rc e5 tp => ?_⟩
    · show RR (pv_X0 L xs) (d + 3 + 1) 42 16 _ _ _ = _
      rw [B42_16, if_pos (show cond true (0 : Int32) 1 = 0 from rfl)]
    · rw [B156_0, e5, if_neg (fun e => q (lg_eq.mp e)), pv_ixn (by omega) (by decide), (tp i hi).2, q1, if_neg (show ¬ cond true (1 : Int32) 0 = 0 by decide)]
      exact B156_43
  | false =>
    rw [q1] at st2
    obtain ⟨w, g1, g2⟩ := part_eq (L := L) (xs := xs) (x4 := x4) (above := tpV M R n i) (below := Int64.ofInt (dtm M n) * bl) (below_pos (p := 1) h0 h1 q hbl (by omega) (by omega)).1
    refine ⟨b, w, st2 _ ?_, f2.1, fun d v c rc e5 tp => ?_⟩
    · show RR (pv_X0 L xs) (d + 3 + 1) 42 16 _ _ _ = _
      rw [B42_16, if_neg (show ¬ cond false (0 : Int32) 1 = 0 by decide), pv_ixn (by omega) (by decide), f3, f2.2.2.1, g1, pv_bd_some]
      exact B42_39
    · rw [B156_0, e5, if_neg (fun e => q (lg_eq.mp e)), pv_ixn (by omega) (by decide), (tp i hi).2, q1, if_pos (show cond false (1 : Int32) 0 = 0 from rfl), pv_ixn (by omega) (by decide), (tp i hi).1, q1, rc.2.1]
      show (pv_bd (RR (pv_X0 L xs) d 157 0 [some (.long (tpV M R n i)), none, some (.long (Int64.ofInt (dtm M n) * bl)), none, some (.int x4), none, none, none, none, none, none] [] (enc c)) fun v w => RR (pv_X0 L xs) (d + 1) 156 43 [some (.ref 55), some (.int (jI i)), some (.int x4)] (v.toList ++ []) w) = _
      rw [g2, pv_bd_some]
      exact B156_43
theorem dt_facts (h2n : 2 ≤ n) (hn6 : n ≤ 6) {c : Nat → Bool} (hg : hgP u n c) : 0 ≤ dtm (MI is1 n (mT u c) (pT u c)) n ∧ dtm (MI is1 n (mT u c) (pT u c)) n ≤ 602661150000000 := ⟨dtm_nn h2n (fun i hi => pT_mT hi hn6 hg) (fun i hi => mT_ii hi hn6 hg), Int.le_trans (dtm_bd (fun i j => mT_le hg) (fun i => pT_le hg)) (dB_6 hn6)⟩
theorem bl_12 : blT m = 1 ∨ blT m = 2 := by
  unfold blT
  split
  · exact Or.inr rfl
  · exact Or.inl rfl
theorem P_rating (h : Inv u) : Both L xs 41 152 [some (.ref 0), some (.int x), some (.int y), some (.int z), some (.int w)] [some (.ref 55), some (.int x), some (.int y), some (.int z), some (.int w)] u := by
  have h0 := h
  obtain ⟨n, N, h2n, hn6, h30, hn, hN, hn', hN'⟩ := rows_ctx h
  obtain ⟨⟨b1, b2, b3, b4, b5, b6, b7, b8, b9, b10⟩, ⟨g1, g2⟩, ⟨f1, f2⟩, ⟨t1, t2, t3⟩, ⟨p1, p2, p3⟩, hL, ⟨k1, k2, k3⟩⟩ := h
  have n15 : 0 ≤ (gI u 15).toInt := by rw [← b1]; omega
  by_cases q1 : asOk x y
  case neg =>
    refine ⟨.long (-9223372036854775808), u, u, ?_, ?_, h0, rfl⟩
    · simp only [B41_0, C_asked, C_team, C_choice, B41_5, B41_16, B41_24, reduceIte, e10, pv_bd_some, Option.toList_some, Option.toList_none, List.cons_append, List.nil_append, List.append_nil, ite01, if_neg q1]
    · simp only [B152_0, M_asked, M_team n15, M_isInI, B152_5, B152_13, B152_24, reduceIte, e10, pv_bd_some, Option.toList_some, Option.toList_none, List.cons_append, List.nil_append, List.append_nil, ite01, ← b1, ← b3, z0, z1, z2, z3, z4, z5, z6, z7, z12, z20, z30, z99, y0, y1, y2, y3, y6, y7, y99, y15, if_neg q1]
  by_cases q2 : tmOk (gI u 1) z
  case neg =>
    refine ⟨.long (-9223372036854775808), u, u, ?_, ?_, h0, rfl⟩
    · simp only [B41_0, C_asked, C_team, C_choice, B41_5, B41_16, B41_24, reduceIte, e10, pv_bd_some, Option.toList_some, Option.toList_none, List.cons_append, List.nil_append, List.append_nil, ite01, if_pos q1, if_neg q2]
    · simp only [B152_0, M_asked, M_team n15, M_isInI, B152_5, B152_13, B152_24, reduceIte, e10, pv_bd_some, Option.toList_some, Option.toList_none, List.cons_append, List.nil_append, List.append_nil, ite01, ← b1, ← b3, z0, z1, z2, z3, z4, z5, z6, z7, z12, z20, z30, z99, y0, y1, y2, y3, y6, y7, y99, y15, if_pos q1, if_neg q2]
  by_cases q3 : chOk w
  case neg =>
    refine ⟨.long (-9223372036854775808), u, u, ?_, ?_, h0, rfl⟩
    · simp only [B41_0, C_asked, C_team, C_choice, B41_5, B41_16, B41_24, reduceIte, e10, pv_bd_some, Option.toList_some, Option.toList_none, List.cons_append, List.nil_append, List.append_nil, ite01, if_pos q1, if_pos q2, if_neg q3]
    · simp only [B152_0, M_asked, M_team n15, M_isInI, B152_5, B152_13, B152_24, reduceIte, e10, pv_bd_some, Option.toList_some, Option.toList_none, List.cons_append, List.nil_append, List.append_nil, ite01, ← b1, ← b3, z0, z1, z2, z3, z4, z5, z6, z7, z12, z20, z30, z99, y0, y1, y2, y3, y6, y7, y99, y15, if_pos q1, if_pos q2, if_neg q3]
  obtain ⟨i, hi, ei⟩ := tm_at hn6 (hn ▸ q2)
  have hg := hg_of (day := y) (lo := -1) (wg := false) h0 hn6 h30 hn hN (fun q => nomatch q)
  obtain ⟨c1, hc1, rc1⟩ := C_asOf (L := L) (xs := xs) (d := 94) (m := x) (day := y) h0 h2n hn6 h30 hn hN
  obtain ⟨d0, d1⟩ := dt_facts (is1 := decide (x = 1)) h2n hn6 hg
  obtain ⟨c1', ans, hd1, sc1, hm⟩ := rate_both (L := L) (xs := xs) (d := 94) (x4 := w) rc1 bl_12 h2n hn6 hi d0 d1
  obtain ⟨c2, hc2, rc2, e5, tp⟩ := M_solvesA (L := L) (xs := xs) (d := 95) (m := x) (day := y) h0 sc1 h2n hn6 h30 hn hN hn' hN'
  have hd2 := hm 97 c1' c2 rc2 e5 tp
  have e15 : gI c1' 15 = gI u 15 := sc1.1 15 (by decide)
  have e15' : gI c1' 15 = gI u 1 := e15.trans b1.symm
  refine ⟨.long ans, c1', c2, ?_, ?_, Inv_scr h0 (scr_trans sc1 rc2.1), rfl⟩
  · simp only [B41_0, C_asked, C_team, C_choice, B41_5, B41_16, B41_24, reduceIte, e10, pv_bd_some, Option.toList_some, Option.toList_none, List.cons_append, List.nil_append, List.append_nil, ite01, if_pos q1, if_pos q2, if_pos q3, hc1]
    rw [B41_37, ei, hd1, pv_bd_some]
    exact B41_47
  · simp only [B152_0, M_asked, M_team (e15 ▸ n15), M_isInI, B152_5, B152_13, B152_24, reduceIte, e10, pv_bd_some, Option.toList_some, Option.toList_none, List.cons_append, List.nil_append, List.append_nil, ite01, e15', z0, z1, z2, z3, z4, z5, z6, z7, z12, z20, z30, z99, y0, y1, y2, y3, y6, y7, y99, y15, if_pos q1, if_pos q2, if_pos q3, hc2]
    rw [B152_39, ei, hd2, pv_bd_some]
    exact B152_46
theorem P_would (h : Inv u) : Both L xs 59 168 [some (.ref 0), some (.int x), some (.int y), some (.int z), some (.int w)] [some (.ref 55), some (.int x), some (.int y), some (.int z), some (.int w)] u := by
  have h0 := h
  obtain ⟨n, N, h2n, hn6, h30, hn, hN, hn', hN'⟩ := rows_ctx h
  obtain ⟨⟨b1, b2, b3, b4, b5, b6, b7, b8, b9, b10⟩, ⟨g1, g2⟩, ⟨f1, f2⟩, ⟨t1, t2, t3⟩, ⟨p1, p2, p3⟩, hL, ⟨k1, k2, k3⟩⟩ := h
  have n15 : 0 ≤ (gI u 15).toInt := by rw [← b1]; omega
  by_cases q1 : asOk x y
  case neg =>
    refine ⟨.long (-9223372036854775808), u, u, ?_, ?_, h0, rfl⟩
    · simp only [B59_0, C_asked, C_team, C_choice, B59_5, B59_16, B59_24, reduceIte, e10, pv_bd_some, Option.toList_some, Option.toList_none, List.cons_append, List.nil_append, List.append_nil, ite01, if_neg q1]
    · simp only [B168_0, M_asked, M_team n15, M_isInI, B168_5, B168_13, B168_24, reduceIte, e10, pv_bd_some, Option.toList_some, Option.toList_none, List.cons_append, List.nil_append, List.append_nil, ite01, ← b1, ← b3, z0, z1, z2, z3, z4, z5, z6, z7, z12, z20, z30, z99, y0, y1, y2, y3, y6, y7, y99, y15, if_neg q1]
  by_cases q2 : tmOk (gI u 1) z
  case neg =>
    refine ⟨.long (-9223372036854775808), u, u, ?_, ?_, h0, rfl⟩
    · simp only [B59_0, C_asked, C_team, C_choice, B59_5, B59_16, B59_24, reduceIte, e10, pv_bd_some, Option.toList_some, Option.toList_none, List.cons_append, List.nil_append, List.append_nil, ite01, if_pos q1, if_neg q2]
    · simp only [B168_0, M_asked, M_team n15, M_isInI, B168_5, B168_13, B168_24, reduceIte, e10, pv_bd_some, Option.toList_some, Option.toList_none, List.cons_append, List.nil_append, List.append_nil, ite01, ← b1, ← b3, z0, z1, z2, z3, z4, z5, z6, z7, z12, z20, z30, z99, y0, y1, y2, y3, y6, y7, y99, y15, if_pos q1, if_neg q2]
  by_cases q3 : chOk w
  case neg =>
    refine ⟨.long (-9223372036854775808), u, u, ?_, ?_, h0, rfl⟩
    · simp only [B59_0, C_asked, C_team, C_choice, B59_5, B59_16, B59_24, reduceIte, e10, pv_bd_some, Option.toList_some, Option.toList_none, List.cons_append, List.nil_append, List.append_nil, ite01, if_pos q1, if_pos q2, if_neg q3]
    · simp only [B168_0, M_asked, M_team n15, M_isInI, B168_5, B168_13, B168_24, reduceIte, e10, pv_bd_some, Option.toList_some, Option.toList_none, List.cons_append, List.nil_append, List.append_nil, ite01, ← b1, ← b3, z0, z1, z2, z3, z4, z5, z6, z7, z12, z20, z30, z99, y0, y1, y2, y3, y6, y7, y99, y15, if_pos q1, if_pos q2, if_neg q3]
  by_cases q4 : gI u 4 = 0
  case pos =>
    refine ⟨.long (-9223372036854775808), u, u, ?_, ?_, h0, rfl⟩
    · simp only [B59_0, C_asked, C_team, C_choice, B59_5, B59_16, B59_24, reduceIte, e10, pv_bd_some, Option.toList_some, Option.toList_none, List.cons_append, List.nil_append, List.append_nil, ite01, if_pos q1, if_pos q2, if_pos q3, if_pos q4]
    · simp only [B168_0, M_asked, M_team n15, M_isInI, B168_5, B168_13, B168_24, reduceIte, e10, pv_bd_some, Option.toList_some, Option.toList_none, List.cons_append, List.nil_append, List.append_nil, ite01, ← b1, ← b7, z0, z1, z2, z3, z4, z5, z6, z7, z12, z20, z30, z99, y0, y1, y2, y3, y6, y7, y99, y15, if_pos q1, if_pos q2, if_pos q3, if_pos q4]
  have hw : gI u 4 = 1 := (i32_01 b8).resolve_left q4
  obtain ⟨i, hi, ei⟩ := tm_at hn6 (hn ▸ q2)
  have hg := hg_of (day := y) (lo := -1) (wg := true) h0 hn6 h30 hn hN (fun _ => hw)
  obtain ⟨c1, hc1, rc1⟩ := C_gatherV (L := L) (xs := xs) (d := 95) (m := x) (day := y) (lo := -1) (wg := true) h0 scr_refl h2n hn6 h30 hn hN (fun _ => hw)
  have hc1 : RR (pv_X0 L xs) 98 30 0 [some (.ref 22), some (.ref 1), some (.int x), some (.int y), some (.int (-1)), some (.int 1), none, none] [] (enc u) = some (none, enc c1) := hc1
  obtain ⟨d0, d1⟩ := dt_facts (is1 := decide (x = 1)) h2n hn6 hg
  obtain ⟨c1', ans, hd1, sc1, hm⟩ := rate_both (L := L) (xs := xs) (d := 94) (x4 := w) rc1 bl_12 h2n hn6 hi d0 d1
  obtain ⟨c2, hc2, rc2, e5, tp⟩ := M_solvesV (L := L) (xs := xs) (d := 95) (m := x) (day := y) (lo := -1) (wg := true) h0 sc1 h2n hn6 h30 hn hN hn' hN' (fun _ => hw)
  have hc2 : RR (pv_X0 L xs) 98 153 0 [some (.ref 55), some (.int x), some (.int y), some (.int (-1)), some (.int 1), none, none, none, none, none, none] [] (enc c1') = some (none, enc c2) := hc2
  have hd2 := hm 97 c1' c2 rc2 e5 tp
  have e15 : gI c1' 15 = gI u 15 := sc1.1 15 (by decide)
  have e15' : gI c1' 15 = gI u 1 := e15.trans b1.symm
  have e18 : gI c1' 18 = gI u 4 := (sc1.1 18 (by decide)).trans b7.symm
  refine ⟨.long ans, c1', c2, ?_, ?_, Inv_scr h0 (scr_trans sc1 rc2.1), rfl⟩
  · simp only [B59_0, C_asked, C_team, C_choice, B59_5, B59_16, B59_24, reduceIte, e10, pv_bd_some, Option.toList_some, Option.toList_none, List.cons_append, List.nil_append, List.append_nil, ite01, if_pos q1, if_pos q2, if_pos q3, if_neg q4, hc1]
    rw [B59_56, ei, hd1, pv_bd_some]
    exact B59_66
  · simp only [B168_0, M_asked, M_team (e15 ▸ n15), M_isInI, B168_5, B168_13, B168_24, reduceIte, e10, pv_bd_some, Option.toList_some, Option.toList_none, List.cons_append, List.nil_append, List.append_nil, ite01, e15', e18, z0, z1, z2, z3, z4, z5, z6, z7, z12, z20, z30, z99, y0, y1, y2, y3, y6, y7, y99, y15, if_pos q1, if_pos q2, if_pos q3, if_neg q4, hc2]
    rw [B168_46, ei, hd2, pv_bd_some]
    exact B168_53
theorem P_without (h : Inv u) : Both L xs 60 169 [some (.ref 0), some (.int x), some (.int y), some (.int e), some (.int z), some (.int w)] [some (.ref 55), some (.int x), some (.int y), some (.int e), some (.int z), some (.int w)] u := by
  have h0 := h
  obtain ⟨n, N, h2n, hn6, h30, hn, hN, hn', hN'⟩ := rows_ctx h
  obtain ⟨⟨b1, b2, b3, b4, b5, b6, b7, b8, b9, b10⟩, ⟨g1, g2⟩, ⟨f1, f2⟩, ⟨t1, t2, t3⟩, ⟨p1, p2, p3⟩, hL, ⟨k1, k2, k3⟩⟩ := h
  have n15 : 0 ≤ (gI u 15).toInt := by rw [← b1]; omega
  have n16 : 0 ≤ (gI u 16).toInt := by rw [← b3]; omega
  by_cases q1 : asOk x y
  case neg =>
    refine ⟨.long (-9223372036854775808), u, u, ?_, ?_, h0, rfl⟩
    · simp only [B60_0, C_asked, C_game, C_team, C_choice, B60_5, B60_16, B60_28, B60_36, reduceIte, e10, pv_bd_some, Option.toList_some, Option.toList_none, List.cons_append, List.nil_append, List.append_nil, ite01, if_neg q1]
    · simp only [B169_0, M_asked, M_game n16, M_team n15, M_isInI, B169_5, B169_13, B169_22, B169_33, reduceIte, e10, pv_bd_some, Option.toList_some, Option.toList_none, List.cons_append, List.nil_append, List.append_nil, ite01, ← b1, ← b3, z0, z1, z2, z3, z4, z5, z6, z7, z12, z20, z30, z99, y0, y1, y2, y3, y6, y7, y99, y15, if_neg q1]
  by_cases q2 : tmOk (gI u 2) e
  case neg =>
    refine ⟨.long (-9223372036854775808), u, u, ?_, ?_, h0, rfl⟩
    · simp only [B60_0, C_asked, C_game, C_team, C_choice, B60_5, B60_16, B60_28, B60_36, reduceIte, e10, pv_bd_some, Option.toList_some, Option.toList_none, List.cons_append, List.nil_append, List.append_nil, ite01, if_pos q1, if_neg q2]
    · simp only [B169_0, M_asked, M_game n16, M_team n15, M_isInI, B169_5, B169_13, B169_22, B169_33, reduceIte, e10, pv_bd_some, Option.toList_some, Option.toList_none, List.cons_append, List.nil_append, List.append_nil, ite01, ← b1, ← b3, z0, z1, z2, z3, z4, z5, z6, z7, z12, z20, z30, z99, y0, y1, y2, y3, y6, y7, y99, y15, if_pos q1, if_neg q2]
  by_cases q3 : tmOk (gI u 1) z
  case neg =>
    refine ⟨.long (-9223372036854775808), u, u, ?_, ?_, h0, rfl⟩
    · simp only [B60_0, C_asked, C_game, C_team, C_choice, B60_5, B60_16, B60_28, B60_36, reduceIte, e10, pv_bd_some, Option.toList_some, Option.toList_none, List.cons_append, List.nil_append, List.append_nil, ite01, if_pos q1, if_pos q2, if_neg q3]
    · simp only [B169_0, M_asked, M_game n16, M_team n15, M_isInI, B169_5, B169_13, B169_22, B169_33, reduceIte, e10, pv_bd_some, Option.toList_some, Option.toList_none, List.cons_append, List.nil_append, List.append_nil, ite01, ← b1, ← b3, z0, z1, z2, z3, z4, z5, z6, z7, z12, z20, z30, z99, y0, y1, y2, y3, y6, y7, y99, y15, if_pos q1, if_pos q2, if_neg q3]
  by_cases q4 : chOk w
  case neg =>
    refine ⟨.long (-9223372036854775808), u, u, ?_, ?_, h0, rfl⟩
    · simp only [B60_0, C_asked, C_game, C_team, C_choice, B60_5, B60_16, B60_28, B60_36, reduceIte, e10, pv_bd_some, Option.toList_some, Option.toList_none, List.cons_append, List.nil_append, List.append_nil, ite01, if_pos q1, if_pos q2, if_pos q3, if_neg q4]
    · simp only [B169_0, M_asked, M_game n16, M_team n15, M_isInI, B169_5, B169_13, B169_22, B169_33, reduceIte, e10, pv_bd_some, Option.toList_some, Option.toList_none, List.cons_append, List.nil_append, List.append_nil, ite01, ← b1, ← b3, z0, z1, z2, z3, z4, z5, z6, z7, z12, z20, z30, z99, y0, y1, y2, y3, y6, y7, y99, y15, if_pos q1, if_pos q2, if_pos q3, if_neg q4]
  obtain ⟨i, hi, ei⟩ := tm_at hn6 (hn ▸ q3)
  have hg := hg_of (day := y) (lo := e) (wg := false) h0 hn6 h30 hn hN (fun q => nomatch q)
  obtain ⟨c1, hc1, rc1⟩ := C_gatherV (L := L) (xs := xs) (d := 95) (m := x) (day := y) (lo := e) (wg := false) h0 scr_refl h2n hn6 h30 hn hN (fun q => nomatch q)
  have hc1 : RR (pv_X0 L xs) 98 30 0 [some (.ref 22), some (.ref 1), some (.int x), some (.int y), some (.int e), some (.int 0), none, none] [] (enc u) = some (none, enc c1) := hc1
  obtain ⟨d0, d1⟩ := dt_facts (is1 := decide (x = 1)) h2n hn6 hg
  obtain ⟨c1', ans, hd1, sc1, hm⟩ := rate_both (L := L) (xs := xs) (d := 94) (x4 := w) rc1 bl_12 h2n hn6 hi d0 d1
  obtain ⟨c2, hc2, rc2, e5, tp⟩ := M_solvesV (L := L) (xs := xs) (d := 95) (m := x) (day := y) (lo := e) (wg := false) h0 sc1 h2n hn6 h30 hn hN hn' hN' (fun q => nomatch q)
  have hc2 : RR (pv_X0 L xs) 98 153 0 [some (.ref 55), some (.int x), some (.int y), some (.int e), some (.int 0), none, none, none, none, none, none] [] (enc c1') = some (none, enc c2) := hc2
  have hd2 := hm 97 c1' c2 rc2 e5 tp
  have e15 : gI c1' 15 = gI u 15 := sc1.1 15 (by decide)
  have e15' : gI c1' 15 = gI u 1 := e15.trans b1.symm
  have e16 : gI c1' 16 = gI u 2 := (sc1.1 16 (by decide)).trans b3.symm
  have n16' : 0 ≤ (gI c1' 16).toInt := by rw [e16, b3]; exact n16
  refine ⟨.long ans, c1', c2, ?_, ?_, Inv_scr h0 (scr_trans sc1 rc2.1), rfl⟩
  · simp only [B60_0, C_asked, C_game, C_team, C_choice, B60_5, B60_16, B60_28, B60_36, reduceIte, e10, pv_bd_some, Option.toList_some, Option.toList_none, List.cons_append, List.nil_append, List.append_nil, ite01, if_pos q1, if_pos q2, if_pos q3, if_pos q4, hc1]
    rw [B60_58, ei, hd1, pv_bd_some]
    exact B60_69
  · simp only [B169_0, M_asked, M_game n16', M_team (e15 ▸ n15), M_isInI, B169_5, B169_13, B169_22, B169_33, reduceIte, e10, pv_bd_some, Option.toList_some, Option.toList_none, List.cons_append, List.nil_append, List.append_nil, ite01, e15', e16, z0, z1, z2, z3, z4, z5, z6, z7, z12, z20, z30, z99, y0, y1, y2, y3, y6, y7, y99, y15, if_pos q1, if_pos q2, if_pos q3, if_pos q4, hc2]
    rw [B169_48, ei, hd2, pv_bd_some]
    exact B169_56
end RATING
