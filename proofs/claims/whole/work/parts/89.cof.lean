/-! det, cofactor (printed by wip/whole/ops/pp.py) -/
def cofV (M : Nat → Nat → Int) (n i j : Nat) : Int := sg (i + j) * mnr M n j i
theorem pop_le : ∀ k, k < 7 → ∀ S, S < 2 ^ k → pop S ≤ k := by decide +kernel
theorem pop_hole : ∀ n, n < 7 → ∀ q, q < n → ∀ S, S < 64 → S &&& ((2 ^ n - 1) ^^^ (1 <<< q)) = S → pop S ≤ n - 1 := by decide +kernel
section COF
variable {L : Nat} {xs : Nat → Int32} {u v a b c : pv_U} {d k n N i j r q S C : Nat} {x y z w : Int32} {M : Nat → Nat → Int} {bl : Int64} {mt : Nat → Nat → Nat} {pl : Nat → Nat} {R : Nat → Int64}
theorem RC_mfr (h : RC u a n bl mt pl M R) (hn6 : n ≤ 6) (m : mfr a b) : RC u b n bl mt pl M R := by
  obtain ⟨s, e1, e2, f⟩ := h
  refine ⟨mfr_scr m s, (m.1 10).trans e1, (m.2.1 3).trans e2, fun i hi => ?_⟩
  obtain ⟨f1, f2, f3⟩ := f i hi
  refine ⟨by rw [m.2.2.1]; exact f1, by rw [m.2.2.2 10 (by decide)]; exact f2, fun j hj => ?_⟩
  rw [m.2.2.1, m.2.2.2 (4 + i) (by omega)]
  exact f3 j hj
theorem RM_mfq (h : RM v a n bl mt M R) (m : mfq a b) : RM v b n bl mt M R := by
  obtain ⟨s, e2, f⟩ := h
  refine ⟨mfq_scr m s, (m.2.1 6).trans e2, fun i hi => ?_⟩
  rw [m.2.2.2 20 (by decide), m.2.2.2 21 (by decide), m.2.2.2 19 (by decide)]
  exact f i hi
theorem C_det (h : RC u a n bl mt pl M R) (hn6 : n ≤ 6) : ∃ b, RR (pv_X0 L xs) (d + 2) 36 0 [some (.ref 22)] [] (enc a) = some (some (.long (Int64.ofInt (dtm M n))), enc b) ∧ mfr a b := by
  obtain ⟨b, h1, h2⟩ := C_minor (L := L) (xs := xs) (d := d) (a := a) (n := n) (k := n) (r := n) (q := n) (M := M) hn6 hn6 (fun i j hi hj => ((h.2.2.2 i hi).2.2 j hj).2) (fun i hi => by unfold skN; rw [if_pos hi]; exact hi) (fun i hi => by unfold skN; rw [if_pos hi]; exact hi) (by omega) (by omega)
  refine ⟨b, ?_, h2⟩
  rw [B36_0, h.2.1, h1, pv_bd_some, ent_Cdet (by omega)]
  exact B36_16
theorem C_cof (h : RC u a n bl mt pl M R) (h2n : 2 ≤ n) (hn6 : n ≤ 6) (hi : i < n) (hj : j < n) : ∃ b, RR (pv_X0 L xs) (d + 2) 40 0 [some (.ref 22), some (.int (jI i)), some (.int (jI j)), none, none] [] (enc a) = some (some (.long (Int64.ofInt (cofV M n i j))), enc b) ∧ mfr a b := by
  have sk : ∀ r i, i < n - 1 → skN r i < n := fun r i hi => by unfold skN; split <;> omega
  obtain ⟨b, h1, h2⟩ := C_minor (L := L) (xs := xs) (d := d) (a := a) (n := n) (k := n - 1) (r := j) (q := i) (M := M) (by omega) hn6 (fun i j hi hj => ((h.2.2.2 i hi).2.2 j hj).2) (sk j) (sk i) (by omega) (by omega)
  have em : jI n - 1 = jI (n - 1) := jI_sub (b := 1) (by omega)
  refine ⟨b, ?_, h2⟩
  rw [B40_0, h.2.1, em, h1, pv_bd_some, ent_Cmin (by omega)]
  simp only [Option.toList_some, List.cons_append, List.nil_append]
  rw [B40_12, jI_add]
  unfold cofV sg
  by_cases q : (i + j) % 2 = 0
  · rw [if_pos ((par1 (by omega)).mpr q), if_pos q, Int.one_mul]
  · rw [if_neg (fun r => q ((par1 (by omega)).mp r)), if_neg q, ← Int64.ofInt_neg]
    rw [show (-1 : Int) * mnr M n j i = -(mnr M n j i) by grind]
theorem M_det (h : RM v a n bl mt M R) (hn6 : n ≤ 6) (hn : gI v 15 = jI n) : ∃ b, RR (pv_X0 L xs) (d + 1) 148 0 [some (.ref 55), some (.int (-1)), some (.int (-1)), none, none, none, none, none, none, none, none, none, none] [] (enc a) = some (some (.long (Int64.ofInt (dtm M n))), enc b) ∧ mfq a b := by
  have e15 : gI a 15 = jI n := (h.1.1 15 (by decide)).trans hn
  have h1n : 1 ≤ 2 ^ n := Nat.one_le_pow n 2 (by decide)
  have h64 : (2 : Nat) ^ n ≤ 2 ^ 6 := Nat.pow_le_pow_right (by decide) hn6
  have em : jI (2 ^ n) - 1 = jI (2 ^ n - 1) := jI_sub (b := 1) h1n
  obtain ⟨b, h1, h2⟩ := M_minor (L := L) (xs := xs) (d := d) (a := a) (n := n) (C := 2 ^ n - 1) (x1 := -1) (x2 := -1) (rm := fun t => t) (M := M) hn6 e15 (fun i j hi hj => ((h.2.2 i hi).2 j hj).2) (Or.inl ⟨by decide, fun _ => rfl⟩) (by omega) (fun S hS h0 hc => by
    have hle : S ≤ 2 ^ n - 1 := hc ▸ Nat.and_le_right
    have := pop_le n (by omega) S (by omega)
    have := (bits_all S hS).2.2.1 h0
    show pop S - 1 < n
    omega)
  refine ⟨b, ?_, h2⟩
  rw [B148_0, if_neg (by decide), e15, shl1 n (by omega), em, h1, ent_Mdet (by omega) (fun _ _ => rfl)]
theorem M_cof (h : RM v a n bl mt M R) (h2n : 2 ≤ n) (hn6 : n ≤ 6) (hn : gI v 15 = jI n) (hi : i < n) (hj : j < n) : ∃ b, RR (pv_X0 L xs) (d + 2) 151 0 [some (.ref 55), some (.int (jI i)), some (.int (jI j)), none, none] [] (enc a) = some (some (.long (Int64.ofInt (cofV M n i j))), enc b) ∧ mfq a b := by
  have e15 : gI a 15 = jI n := (h.1.1 15 (by decide)).trans hn
  have h1n : 1 ≤ 2 ^ n := Nat.one_le_pow n 2 (by decide)
  have h64 : (2 : Nat) ^ n ≤ 2 ^ 6 := Nat.pow_le_pow_right (by decide) hn6
  have em : jI (2 ^ n) - 1 = jI (2 ^ n - 1) := jI_sub (b := 1) h1n
  obtain ⟨a1, a2⟩ := allC n (by omega) i hi
  obtain ⟨b, h1, h2⟩ := M_minor (L := L) (xs := xs) (d := d) (a := a) (n := n) (C := (2 ^ n - 1) ^^^ (1 <<< i)) (x1 := jI j) (x2 := jI i) (rm := skN j) (M := M) hn6 e15 (fun i j hi hj => ((h.2.2 i hi).2 j hj).2) (Or.inr ⟨j, by omega, rfl, rfl⟩) a2 (fun S hS h0 hc => by
    have := pop_hole n (by omega) i hi S hS hc
    have := (bits_all S hS).2.2.1 h0
    unfold skN
    split <;> omega)
  have e0 : RR (pv_X0 L xs) (d + 1) 148 0 [some (.ref 55), some (.int (jI j)), some (.int (jI i)), none, none, none, none, none, none, none, none, none, none] [] (enc a) = some (some (.long (Int64.ofInt (mnr M n j i))), enc b) := by
    rw [B148_0, if_pos (show (0 : Int32) ≤ jI i by show jI 0 ≤ jI i; rw [jI_le (by omega) (by omega)]; omega), e15, shl1 n (by omega), a1, em, h1, ent_Mmin (by omega) hi]
  refine ⟨b, ?_, h2⟩
  rw [B151_0, e0, pv_bd_some]
  simp only [Option.toList_some, List.cons_append, List.nil_append]
  rw [B151_6, jI_add]
  unfold cofV sg
  by_cases q : (i + j) % 2 = 0
  · rw [if_pos ((par1 (by omega)).mpr q), if_pos q, Int.one_mul]
  · rw [if_neg (fun r => q ((par1 (by omega)).mp r)), if_neg q, ← Int64.ofInt_neg]
    rw [show (-1 : Int) * mnr M n j i = -(mnr M n j i) by grind]
theorem P_det (h : Inv u) : Both L xs 35 147 [some (.ref 0), some (.int x), some (.int y)] [some (.ref 55), some (.int x), some (.int y)] u := by
  have h0 := h
  obtain ⟨n, N, h2n, hn6, h30, hn, hN, hn', hN'⟩ := rows_ctx h
  obtain ⟨⟨b1, b2, b3, b4, b5, b6, b7, b8, b9, b10⟩, ⟨g1, g2⟩, ⟨f1, f2⟩, ⟨t1, t2, t3⟩, ⟨p1, p2, p3⟩, hL, ⟨k1, k2, k3⟩⟩ := h
  by_cases q1 : asOk x y
  case neg =>
    refine ⟨.long (-9223372036854775808), u, u, ?_, ?_, h0, rfl⟩
    · simp only [B35_0, C_asked, B35_5, reduceIte, e10, pv_bd_some, Option.toList_some, Option.toList_none, List.cons_append, List.nil_append, List.append_nil, ite01, if_neg q1]
    · simp only [B147_0, M_asked, B147_5, reduceIte, e10, pv_bd_some, Option.toList_some, Option.toList_none, List.cons_append, List.nil_append, List.append_nil, ite01, ← b1, ← b3, z0, z1, z2, z3, z4, z5, z6, z7, z12, z20, z30, z99, y0, y1, y2, y3, y6, y7, y99, y15, if_neg q1]
  obtain ⟨c1, hc1, rc1⟩ := C_asOf (L := L) (xs := xs) (d := 94) (m := x) (day := y) h0 h2n hn6 h30 hn hN
  obtain ⟨c1', hd1, md1⟩ := C_det (L := L) (xs := xs) (d := 96) rc1 hn6
  have sc1 := mfr_scr md1 rc1.1
  obtain ⟨c2, hc2, rc2⟩ := M_asOf (L := L) (xs := xs) (d := 96) (m := x) (day := y) h0 sc1 h2n hn6 h30 hn hN hn' hN'
  obtain ⟨c2', hd2, md2⟩ := M_det (L := L) (xs := xs) (d := 97) rc2 hn6 ((sc1.1 15 (by decide)).trans hn')
  refine ⟨.long (Int64.ofInt (dtm (MI (decide (x = 1)) n (mT u (cW u N y (-1) false)) (pT u (cW u N y (-1) false))) n)), c1', c2', ?_, ?_, Inv_scr h0 (scr_trans sc1 (mfq_scr md2 rc2.1)), rfl⟩
  · simp only [B35_0, C_asked, B35_5, reduceIte, e10, pv_bd_some, Option.toList_some, Option.toList_none, List.cons_append, List.nil_append, List.append_nil, ite01, if_pos q1, hc1]
    rw [B35_18, hd1, pv_bd_some]
    exact B35_25
  · simp only [B147_0, M_asked, B147_5, reduceIte, e10, pv_bd_some, Option.toList_some, Option.toList_none, List.cons_append, List.nil_append, List.append_nil, ite01, if_pos q1, hc2]
    rw [B147_20, hd2, pv_bd_some]
    exact B147_26
theorem P_cofactor (h : Inv u) : Both L xs 39 150 [some (.ref 0), some (.int x), some (.int y), some (.int z), some (.int w)] [some (.ref 55), some (.int x), some (.int y), some (.int z), some (.int w)] u := by
  have h0 := h
  obtain ⟨n, N, h2n, hn6, h30, hn, hN, hn', hN'⟩ := rows_ctx h
  obtain ⟨⟨b1, b2, b3, b4, b5, b6, b7, b8, b9, b10⟩, ⟨g1, g2⟩, ⟨f1, f2⟩, ⟨t1, t2, t3⟩, ⟨p1, p2, p3⟩, hL, ⟨k1, k2, k3⟩⟩ := h
  have n15 : 0 ≤ (gI u 15).toInt := by rw [← b1]; omega
  by_cases q1 : asOk x y
  case neg =>
    refine ⟨.long (-9223372036854775808), u, u, ?_, ?_, h0, rfl⟩
    · simp only [B39_0, C_asked, C_team, B39_5, B39_16, B39_28, reduceIte, e10, pv_bd_some, Option.toList_some, Option.toList_none, List.cons_append, List.nil_append, List.append_nil, ite01, if_neg q1]
    · simp only [B150_0, M_asked, M_team n15, B150_5, B150_13, B150_22, reduceIte, e10, pv_bd_some, Option.toList_some, Option.toList_none, List.cons_append, List.nil_append, List.append_nil, ite01, ← b1, ← b3, z0, z1, z2, z3, z4, z5, z6, z7, z12, z20, z30, z99, y0, y1, y2, y3, y6, y7, y99, y15, if_neg q1]
  by_cases q2 : tmOk (gI u 1) z
  case neg =>
    refine ⟨.long (-9223372036854775808), u, u, ?_, ?_, h0, rfl⟩
    · simp only [B39_0, C_asked, C_team, B39_5, B39_16, B39_28, reduceIte, e10, pv_bd_some, Option.toList_some, Option.toList_none, List.cons_append, List.nil_append, List.append_nil, ite01, if_pos q1, if_neg q2]
    · simp only [B150_0, M_asked, M_team n15, B150_5, B150_13, B150_22, reduceIte, e10, pv_bd_some, Option.toList_some, Option.toList_none, List.cons_append, List.nil_append, List.append_nil, ite01, ← b1, ← b3, z0, z1, z2, z3, z4, z5, z6, z7, z12, z20, z30, z99, y0, y1, y2, y3, y6, y7, y99, y15, if_pos q1, if_neg q2]
  by_cases q3 : tmOk (gI u 1) w
  case neg =>
    refine ⟨.long (-9223372036854775808), u, u, ?_, ?_, h0, rfl⟩
    · simp only [B39_0, C_asked, C_team, B39_5, B39_16, B39_28, reduceIte, e10, pv_bd_some, Option.toList_some, Option.toList_none, List.cons_append, List.nil_append, List.append_nil, ite01, if_pos q1, if_pos q2, if_neg q3]
    · simp only [B150_0, M_asked, M_team n15, B150_5, B150_13, B150_22, reduceIte, e10, pv_bd_some, Option.toList_some, Option.toList_none, List.cons_append, List.nil_append, List.append_nil, ite01, ← b1, ← b3, z0, z1, z2, z3, z4, z5, z6, z7, z12, z20, z30, z99, y0, y1, y2, y3, y6, y7, y99, y15, if_pos q1, if_pos q2, if_neg q3]
  obtain ⟨i, hi, ei⟩ := tm_at hn6 (hn ▸ q2)
  obtain ⟨j, hj, ej⟩ := tm_at hn6 (hn ▸ q3)
  obtain ⟨c1, hc1, rc1⟩ := C_asOf (L := L) (xs := xs) (d := 94) (m := x) (day := y) h0 h2n hn6 h30 hn hN
  obtain ⟨c1', hd1, md1⟩ := C_cof (L := L) (xs := xs) (d := 96) rc1 h2n hn6 hi hj
  have sc1 := mfr_scr md1 rc1.1
  obtain ⟨c2, hc2, rc2⟩ := M_asOf (L := L) (xs := xs) (d := 96) (m := x) (day := y) h0 sc1 h2n hn6 h30 hn hN hn' hN'
  obtain ⟨c2', hd2, md2⟩ := M_cof (L := L) (xs := xs) (d := 96) rc2 h2n hn6 ((sc1.1 15 (by decide)).trans hn') hi hj
  have e15 : gI c1' 15 = gI u 15 := sc1.1 15 (by decide)
  have e15' : gI c1' 15 = gI u 1 := e15.trans b1.symm
  refine ⟨.long (Int64.ofInt (cofV (MI (decide (x = 1)) n (mT u (cW u N y (-1) false)) (pT u (cW u N y (-1) false))) n i j)), c1', c2', ?_, ?_, Inv_scr h0 (scr_trans sc1 (mfq_scr md2 rc2.1)), rfl⟩
  · simp only [B39_0, C_asked, C_team, B39_5, B39_16, B39_28, reduceIte, e10, pv_bd_some, Option.toList_some, Option.toList_none, List.cons_append, List.nil_append, List.append_nil, ite01, if_pos q1, if_pos q2, if_pos q3, hc1]
    rw [B39_41, ei, ej, hd1, pv_bd_some]
    exact B39_51
  · simp only [B150_0, M_asked, M_team (e15 ▸ n15), B150_5, B150_13, B150_22, reduceIte, e10, pv_bd_some, Option.toList_some, Option.toList_none, List.cons_append, List.nil_append, List.append_nil, ite01, e15', if_pos q1, if_pos q2, if_pos q3, hc2]
    rw [B150_37, ei, ej, hd2, pv_bd_some]
    exact B150_44
end COF
