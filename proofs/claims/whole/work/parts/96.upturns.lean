/-! upturns (printed by wip/whole/ops/pp.py) -/
section UPTURNS
variable {L : Nat} {xs : Nat → Int32} {u v a b c : pv_U} {d k n N i j r q S C p : Nat} {x y z w m day lo w4 : Int32} {M M2 : Nat → Nat → Int} {bl det : Int64} {mt : Nat → Nat → Nat} {pl : Nat → Nat} {R R2 : Nat → Int64} {s t : Int64} {V : Nat → Int64} {o : Nat → Nat} {wg : Bool}
theorem scr_rows (s : scr u b) : cW b N day lo wg = cW u N day lo wg ∧ mT b = mT u ∧ pT b = pT u ∧ rT b m = rT u m := by
  have e0 := s.2.2.1 0 (by decide)
  have e1 := s.2.2.1 1 (by decide)
  have e2 := s.2.2.1 2 (by decide)
  have e3 := s.2.2.1 3 (by decide)
  have e4 := s.2.2.1 4 (by decide)
  have f0 := s.2.2.2 0 (by decide)
  have f1 := s.2.2.2 1 (by decide)
  have j0 := s.2.1 0 (by decide)
  refine ⟨?_, ?_, ?_, ?_⟩
  · show ctB (gA b 4) (gA b 2) N day lo wg = _
    rw [e4, e2]
  · funext c i j
    unfold mT
    rw [e0, e1, e3]
  · funext c i
    unfold pT
    rw [e0, e1, e3]
  · funext c i
    have : gnC b m = gnC u m := by
      funext g
      unfold gnC
      rw [f0, f1, j0, e3]
    unfold rT
    rw [e0, e1, this]
theorem C_gatherV (h : Inv u) (s : scr u b) (h2n : 2 ≤ n) (hn6 : n ≤ 6) (h30 : N ≤ 30) (hn : gI u 1 = jI n) (hN : gI u 2 = jI N) (hw : wg = true → gI u 4 = 1) : ∃ c, RR (pv_X0 L xs) (d + 3) 30 0 [some (.ref 22), some (.ref 1), some (.int m), some (.int day), some (.int lo), some (.int (if wg = true then 1 else 0)), none, none] [] (enc b) = some (none, enc c) ∧ RC u c n (blT m) (mT u (cW u N day lo wg)) (pT u (cW u N day lo wg)) (MI (decide (m = 1)) n (mT u (cW u N day lo wg)) (pT u (cW u N day lo wg))) (RV (decide (m = 1)) n (rT u m (cW u N day lo wg))) := by
  have hb := Inv_scr h s
  have f1 : gI b 1 = jI n := (s.1 1 (by decide)).trans hn
  have f2 : gI b 2 = jI N := (s.1 2 (by decide)).trans hN
  have f4 : wg = true → gI b 4 = 1 := fun q => (s.1 4 (by decide)).trans (hw q)
  obtain ⟨c, h1, h2⟩ := C_gather (L := L) (xs := xs) (d := d) (m := m) (day := day) (lo := lo) f2 h30 f1 h2n hn6 (wg := wg) (hg_of hb hn6 h30 f1 f2 f4)
  obtain ⟨g1, g2, g3, g4⟩ := scr_rows (N := N) (day := day) (lo := lo) (wg := wg) (m := m) s
  rw [g1, g2, g3, g4] at h2
  exact ⟨c, h1, scr_trans s h2.1, h2.2⟩
theorem M_solvesV (h : Inv u) (s : scr u v) (h2n : 2 ≤ n) (hn6 : n ≤ 6) (h30 : N ≤ 30) (hn : gI u 1 = jI n) (hN : gI u 2 = jI N) (hn' : gI u 15 = jI n) (hN' : gI u 16 = jI N) (hw : wg = true → gI u 4 = 1) : ∃ b, RR (pv_X0 L xs) (d + 3) 153 0 [some (.ref 55), some (.int m), some (.int day), some (.int lo), some (.int (if wg = true then 1 else 0)), none, none, none, none, none, none] [] (enc v) = some (none, enc b) ∧ RM v b n (blT m) (mT u (cW u N day lo wg)) (MI (decide (m = 1)) n (mT u (cW u N day lo wg)) (pT u (cW u N day lo wg))) (RV (decide (m = 1)) n (rT u m (cW u N day lo wg))) ∧ gJ b 5 = Int64.ofInt (dtm (MI (decide (m = 1)) n (mT u (cW u N day lo wg)) (pT u (cW u N day lo wg))) n) ∧ topsM b (MI (decide (m = 1)) n (mT u (cW u N day lo wg)) (pT u (cW u N day lo wg))) (RV (decide (m = 1)) n (rT u m (cW u N day lo wg))) n n :=
  M_solves (L := L) (xs := xs) (d := d) (m := m) (day := day) (lo := lo) (wg := wg) ((s.1 16 (by decide)).trans hN') h30 ((s.1 15 (by decide)).trans hn') h2n hn6 (sameR_of h s) (hg_of h hn6 h30 hn hN hw)
theorem sl_or : slA M R n = -3 ∨ slA M R n = -6 ∨ slA M R n = 0 := by
  unfold slA
  by_cases q : Int64.ofInt (dtm M n) = 0
  · rw [if_pos q]
    exact Or.inl rfl
  · rw [if_neg q]
    cases anyN (tpO M R n) n with
    | true => exact Or.inr (Or.inl rfl)
    | false => exact Or.inr (Or.inr rfl)
theorem P_upturns (h : Inv u) : Both L xs 61 170 [some (.ref 0), some (.int x), some (.int y), some (.int z), none, none, none] [some (.ref 55), some (.int x), some (.int y), some (.int z), none, none, none] u := by
  have h0 := h
  obtain ⟨n, N, h2n, hn6, h30, hn, hN, hn', hN'⟩ := rows_ctx h
  obtain ⟨⟨b1, b2, b3, b4, b5, b6, b7, b8, b9, b10⟩, ⟨g1, g2⟩, ⟨f1, f2⟩, ⟨t1, t2, t3⟩, ⟨p1, p2, p3⟩, hL, ⟨k1, k2, k3⟩⟩ := h
  have n16 : 0 ≤ (gI u 16).toInt := by rw [← b3]; omega
  by_cases q1 : asOk x y
  case neg =>
    refine ⟨.int (-1), u, u, ?_, ?_, h0, rfl⟩
    · simp only [B61_0, C_asked, C_game, B61_5, B61_16, reduceIte, e10, pv_bd_some, Option.toList_some, Option.toList_none, List.cons_append, List.nil_append, List.append_nil, ite01, if_neg q1]
    · simp only [B170_0, M_asked, M_game n16, B170_5, B170_13, reduceIte, e10, pv_bd_some, Option.toList_some, Option.toList_none, List.cons_append, List.nil_append, List.append_nil, ite01, ← b1, ← b3, z0, z1, z2, z3, z4, z5, z6, z7, z12, z20, z30, z99, y0, y1, y2, y3, y6, y7, y99, y15, if_neg q1]
  by_cases q2 : tmOk (gI u 2) z
  case neg =>
    refine ⟨.int (-1), u, u, ?_, ?_, h0, rfl⟩
    · simp only [B61_0, C_asked, C_game, B61_5, B61_16, reduceIte, e10, pv_bd_some, Option.toList_some, Option.toList_none, List.cons_append, List.nil_append, List.append_nil, ite01, if_pos q1, if_neg q2]
    · simp only [B170_0, M_asked, M_game n16, B170_5, B170_13, reduceIte, e10, pv_bd_some, Option.toList_some, Option.toList_none, List.cons_append, List.nil_append, List.append_nil, ite01, ← b1, ← b3, z0, z1, z2, z3, z4, z5, z6, z7, z12, z20, z30, z99, y0, y1, y2, y3, y6, y7, y99, y15, if_pos q1, if_neg q2]
  obtain ⟨c1, hc1, rc1, tp1⟩ := C_solveAsOf (L := L) (xs := xs) (d := 93) (m := x) (day := y) h0 h2n hn6 h30 hn hN
  obtain ⟨s1, o1, p1, p2, p3, p4⟩ := C_byRatings (L := L) (xs := xs) (d := 97) (a := c1) (V := gB c1 11) rc1.2.1 hn6 (fun _ _ => rfl)
  have rs1 := RC_ofr rc1 hn6 p2
  obtain ⟨c2, hc2, rc2⟩ := C_gatherV (L := L) (xs := xs) (d := 95) (m := x) (day := y) (lo := z) (wg := false) h0 rs1.1 h2n hn6 h30 hn hN (fun q => nomatch q)
  have hc2 : RR (pv_X0 L xs) 98 30 0 [some (.ref 22), some (.ref 1), some (.int x), some (.int y), some (.int z), some (.int 0), none, none] [] (enc s1) = some (none, enc c2) := hc2
  obtain ⟨c3, hc3, rc3, -, tp3⟩ := C_solve (L := L) (xs := xs) (d := 94) rc2 h2n hn6
  obtain ⟨c4, o2, r1, r2, r3, r4⟩ := C_byRatings (L := L) (xs := xs) (d := 97) (a := c3) (V := gB c3 11) rc3.2.1 hn6 (fun _ _ => rfl)
  have k2 := (RC_ofr rc3 hn6 r2).1
  obtain ⟨m1, hm1, rm1, e5, tpm1⟩ := M_solvesA (L := L) (xs := xs) (d := 95) (m := x) (day := y) h0 k2 h2n hn6 h30 hn hN hn' hN'
  have k3 := scr_trans k2 rm1.1
  obtain ⟨m2, hm2, rm2, e5', tpm2⟩ := M_solvesV (L := L) (xs := xs) (d := 95) (m := x) (day := y) (lo := z) (wg := false) h0 k3 h2n hn6 h30 hn hN hn' hN' (fun q => nomatch q)
  have hm2 : RR (pv_X0 L xs) 98 153 0 [some (.ref 55), some (.int x), some (.int y), some (.int z), some (.int 0), none, none, none, none, none, none] [] (enc m1) = some (none, enc m2) := hm2
  have k4 := scr_trans k3 rm2.1
  have f15 : ∀ c, scr u c → gI c 15 = jI n := fun c s => (s.1 15 (by decide)).trans hn'
  have hg1 := M_against (L := L) (xs := xs) (d := 97) (f15 _ k3) hn6 tpm1 e5
  have hg2 := M_against (L := L) (xs := xs) (d := 97) (f15 _ k4) hn6 tpm2 e5'
  have hr1 := M_ranked (L := L) (xs := xs) (d := 96) (b := m1) (p := 0) (V := gB m1 23) (f15 _ k3) hn6 (by omega) (fun _ => rfl)
  have hr2 := M_ranked (L := L) (xs := xs) (d := 96) (b := m2) (p := 0) (V := gB m2 23) (f15 _ k4) hn6 (by omega) (fun _ => rfl)
  have e16 : gI c4 16 = gI u 2 := (k2.1 16 (by decide)).trans b3.symm
  have n16' : 0 ≤ (gI c4 16).toInt := by rw [e16, b3]; exact n16
  generalize MI (decide (x = 1)) n (mT u (cW u N y (-1) false)) (pT u (cW u N y (-1) false)) = M at *
  generalize RV (decide (x = 1)) n (rT u x (cW u N y (-1) false)) = R at *
  generalize MI (decide (x = 1)) n (mT u (cW u N y z false)) (pT u (cW u N y z false)) = M2 at *
  generalize RV (decide (x = 1)) n (rT u x (cW u N y z false)) = R2 at *
  have cls : RR (pv_X0 L xs) 99 61 0 [some (.ref 0), some (.int x), some (.int y), some (.int z), none, none, none] [] (enc u) = RR (pv_X0 L xs) 99 61 86 [some (.ref 0), some (.int x), some (.int y), some (.int z), some (.int (slA M R n)), some (.int (jI (o1 0))), some (.int (slA M2 R2 n))] [] (enc c4) := by
    simp only [B61_0, C_asked, C_game, B61_5, B61_16, reduceIte, e10, pv_bd_some, Option.toList_some, Option.toList_none, List.cons_append, List.nil_append, List.append_nil, ite01, if_pos q1, if_pos q2, hc1]
    rw [B61_27, p1, pv_bd_some]
    simp only [Option.toList_none, List.nil_append]
    rw [B61_40, hc2, pv_bd_some]
    simp only [Option.toList_none, List.nil_append]
    rw [B61_66, hc3, pv_bd_some]
    simp only [Option.toList_some, List.cons_append, List.nil_append]
    rw [B61_73, r1, pv_bd_some, p4 0 (by omega)]
    rfl
  have ref : RR (pv_X0 L xs) 99 170 0 [some (.ref 55), some (.int x), some (.int y), some (.int z), none, none, none] [] (enc c4) = RR (pv_X0 L xs) 99 170 51 [some (.ref 55), some (.int x), some (.int y), some (.int z), some (.int (slA M R n)), some (.int (rkF (gB m1 23) n 0 n)), none] [.int (slA M2 R2 n)] (enc m2) := by
    simp only [B170_0, M_asked, M_game n16', B170_5, B170_13, reduceIte, e10, pv_bd_some, Option.toList_some, Option.toList_none, List.cons_append, List.nil_append, List.append_nil, ite01, e16, if_pos q1, if_pos q2, hm1]
    rw [B170_26, hg1, pv_bd_some]
    simp only [Option.toList_some, List.cons_append, List.nil_append]
    rw [B170_30, show RR (pv_X0 L xs) 98 161 0 [some (.ref 55), some (.int 0), none, none] [] (enc m1) = _ from hr1, pv_bd_some]
    simp only [Option.toList_some, List.cons_append, List.nil_append]
    rw [B170_37, hm2, pv_bd_some]
    simp only [Option.toList_none, List.nil_append]
    rw [B170_47, hg2, pv_bd_some]
    rfl
  have ix0 : gA c4 21 0 = jI (o2 0) := r4 0 (by omega)
  refine ⟨.int (if slA M R n = -3 then -3 else if slA M2 R2 n = -3 then -3 else if slA M R n = -6 then -6 else if slA M2 R2 n = -6 then -6 else if jI (o2 0) = jI (o1 0) then 0 else 1), c4, m2, ?_, ?_, Inv_scr h0 k4, rfl⟩
  · rw [cls, B61_86, ix0]
    split
    · rfl
    · split
      · rfl
      · split
        · rfl
        · split
          · rfl
          · split <;> rfl
  · rw [ref]
    show RR (pv_X0 L xs) (98 + 1) 170 51 _ _ _ = _
    rw [B170_51]
    by_cases t1 : slA M R n = -3
    · rw [if_pos t1, if_pos t1]
    rw [if_neg t1, if_neg t1]
    by_cases t2 : slA M2 R2 n = -3
    · rw [if_pos t2, if_pos t2]
    rw [if_neg t2, if_neg t2]
    rcases sl_or (M := M) (R := R) (n := n) with q | q | q
    · exact absurd q t1
    · rw [q, if_neg (by decide), if_pos rfl]
    · have q6 : ¬ slA M R n = -6 := by rw [q]; decide
      rw [if_pos q, if_neg q6]
      rcases sl_or (M := M2) (R := R2) (n := n) with g | g | g
      · exact absurd g t2
      · rw [g, if_neg (by decide), if_pos rfl]
      · have g6 : ¬ slA M2 R2 n = -6 := by rw [g]; decide
        rw [if_pos g, if_neg g6, show RR (pv_X0 L xs) 98 161 0 [some (.ref 55), some (.int 0), none, none] [] (enc m2) = _ from hr2, pv_bd_some]
        simp only [Option.toList_some, List.cons_append, List.nil_append]
        obtain ⟨z1, z2⟩ := sl_0 q
        obtain ⟨y1, y2⟩ := sl_0 g
        have v1 : rkF (gB m1 23) n 0 n = jI (o1 0) := rkF_of (stS_congr p3 (fun i hi => by rw [(tpm1 i hi).1, z2 i hi]; exact tp1 z1 i hi)) (by omega)
        have v2 : rkF (gB m2 23) n 0 n = jI (o2 0) := rkF_of (stS_congr r3 (fun i hi => by rw [(tpm2 i hi).1, y2 i hi]; exact tp3 y1 i hi)) (by omega)
        rw [B170_88, v1, v2]
        by_cases e : jI (o2 0) = jI (o1 0)
        · rw [if_pos e, if_pos e]
        · rw [if_neg e, if_neg e]
end UPTURNS
