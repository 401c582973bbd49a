/-! upsets, upturns (printed by wip/whole/ops/pp.py) -/
abbrev ixN (x : Int32) : Nat := x.toInt.toNat
def upB (u : pv_U) (day : Int32) (V : Nat → Int64) (g : Nat) : Bool := decide ((gA u 4 g = 0 ∧ ¬ day < gA u 2 g) ∧ ((gB u 1 g < gB u 0 g ∧ V (ixN (gA u 0 g)) < V (ixN (gA u 1 g))) ∨ (gB u 0 g < gB u 1 g ∧ V (ixN (gA u 1 g)) < V (ixN (gA u 0 g)))))
section UPSETS
variable {L : Nat} {xs : Nat → Int32} {u v a b c : pv_U} {d k n N i j r q S C p : Nat} {x y z w m day lo w4 : Int32} {M : Nat → Nat → Int} {bl det : Int64} {mt : Nat → Nat → Nat} {pl : Nat → Nat} {R : Nat → Int64} {s t : Int64} {V : Nat → Int64} {o : Nat → Nat}
theorem ixN_jI (h : k < 1000000) : ixN (jI k) = k := by
  show (jI k).toInt.toNat = k
  rw [jI_toInt (by omega)]
  rfl
theorem gm_of (h : Inv u) (hn6 : n ≤ 6) (hn : gI u 1 = jI n) (hN : gI u 2 = jI N) (h30 : N ≤ 30) (hk : k < N) : ∃ H A, H < n ∧ A < n ∧ H ≠ A ∧ gA u 0 k = jI H ∧ gA u 1 k = jI A := by
  have eN : (gI u 2).toInt = N := by rw [hN, jI_toInt (by omega)]
  have en : (gI u 1).toInt = n := by rw [hn, jI_toInt (by omega)]
  obtain ⟨w1, w2, w3, w4, w5, w6, w7, w8, w9, v1⟩ := h.2.1.2 k (by omega) (Or.inl (by omega))
  have eh := i32_nat w1
  have ea := i32_nat w3
  exact ⟨_, _, by omega, by omega, fun q => w5 (by rw [eh, ea, q]), eh, ea⟩
theorem jI_nn (h : k < 1000000) : ¬ jI k = -1 := fun q => by
  have := congrArg Int32.toInt q
  rw [jI_toInt (by omega)] at this
  have : (k : Int) = -1 := this
  omega
theorem jI_n5 (h : k < 1000000) : ¬ jI k = -5 := fun q => by
  have := congrArg Int32.toInt q
  rw [jI_toInt (by omega)] at this
  have : (k : Int) = -5 := this
  omega
theorem C_loser (hk : k < 31) : RR (pv_X0 L xs) (d + 1) 57 0 [some (.ref 1), some (.int (jI k)), none] [] (enc b) = some (some (.int (if gB b 0 k = gB b 1 k then -1 else if gB b 1 k < gB b 0 k then gA b 1 k else gA b 0 k)), enc b) := by
  rw [B57_0, C_outcome hk, pv_bd_some]
  simp only [Option.toList_some, List.cons_append, List.nil_append]
  rw [B57_5, pv_ixn hk (by decide), pv_ixn hk (by decide)]
  unfold oco
  by_cases e : gB b 0 k = gB b 1 k
  · simp only [if_pos e, reduceIte]
  · by_cases e2 : gB b 1 k < gB b 0 k
    · simp only [if_neg e, if_pos e2]
      rw [if_neg (show ¬ (1 : Int32) = 0 by decide), if_neg (show ¬ (1 : Int32) ≤ 0 by decide)]
    · simp only [if_neg e, if_neg e2]
      rw [if_neg (show ¬ (-1 : Int32) = 0 by decide), if_pos (show (-1 : Int32) ≤ 0 by decide)]
theorem C_upL (h : Inv u) (hn6 : n ≤ 6) (h30 : N ≤ 30) (hn : gI u 1 = jI n) (hN : gI u 2 = jI N) (s : scr u b) (hV : ∀ i, i < n → gB b 11 i = tpV M R n i) : RR (pv_X0 L xs) (d + 2) 56 29 [some (.ref 0), some (.int x), some (.int day), some (.int 0), some (.int 0), some (.int 0)] [] (enc b) = some (some (.int (jI (cntN (upB u day (tpV M R n)) N))), enc b) := by
  have eN : gI b 2 = jI N := (s.1 2 (by decide)).trans hN
  have a0 : gA b 0 = gA u 0 := s.2.2.1 0 (by decide)
  have a1 : gA b 1 = gA u 1 := s.2.2.1 1 (by decide)
  have a2 : gA b 2 = gA u 2 := s.2.2.1 2 (by decide)
  have a4 : gA b 4 = gA u 4 := s.2.2.1 4 (by decide)
  have b0 : gB b 0 = gB u 0 := s.2.2.2 0 (by decide)
  have b1 : gB b 1 = gB u 1 := s.2.2.2 1 (by decide)
  obtain ⟨t, h1, -⟩ := pv_loop (R := fun k (_ : Unit) => RR (pv_X0 L xs) (d + 2) 56 29 [some (.ref 0), some (.int x), some (.int day), some (.int 0), some (.int (jI (cntN (upB u day (tpV M R n)) k))), some (.int (jI k))] [] (enc b)) (P := fun _ _ => True) (N := N) (fun k t hk _ => by
    refine ⟨(), ?_, trivial⟩
    obtain ⟨H, A, hH, hA, hHA, eH, eA⟩ := gm_of h hn6 hn hN h30 hk
    show RR (pv_X0 L xs) (d + 1 + 1) 56 29 _ _ _ = RR (pv_X0 L xs) (d + 2) 56 29 [some (.ref 0), some (.int x), some (.int day), some (.int 0), some (.int (jI (cntN (upB u day (tpV M R n)) k + (upB u day (tpV M R n) k).toNat))), some (.int (jI (k + 1)))] [] (enc b)
    rw [B56_29, eN, if_neg (jI_run hk (by omega)), C_counts (by omega), pv_bd_some]
    simp only [Option.toList_some, List.cons_append, List.nil_append]
    rw [B56_51, ite01, a4, a2]
    unfold upB
    rw [eH, eA, ixN_jI (by omega), ixN_jI (by omega)]
    by_cases c1 : gA u 4 k = 0 ∧ ¬ day < gA u 2 k
    · rw [if_pos c1, pv_ixn (by omega) (by decide), pv_ixn (by omega) (by decide), a0, a1, eH, eA, C_greater hH hA hn6 (hV H hH) (hV A hA), pv_bd_some]
      simp only [Option.toList_some, List.cons_append, List.nil_append]
      rw [B56_81, C_loser (by omega), pv_bd_some, b0, b1, a0, a1, eH, eA]
      simp only [Option.toList_some, List.cons_append, List.nil_append]
      rw [B56_90, jI_succ, jI_succ]
      have hna : ¬ jI H = jI A := fun q => hHA ((jI_eq (by omega) (by omega)).mp q)
      have n1 := jI_nn (show H < 1000000 by omega)
      have n2 := jI_nn (show A < 1000000 by omega)
      have n3 := jI_n5 (show H < 1000000 by omega)
      have n4 := jI_n5 (show A < 1000000 by omega)
      generalize tpV M R n H = vh
      generalize tpV M R n A = va
      generalize gB u 0 k = p
      generalize gB u 1 k = q
      generalize jI H = xh at *
      generalize jI A = xa at *
      by_cases f1 : p = q
      · rw [if_pos f1, decide_eq_false (fun q => q.2.elim (fun q => Int64.lt_irrefl (f1 ▸ q.1)) (fun q => Int64.lt_irrefl (f1 ▸ q.1))), if_neg]
        · rfl
        · intro e
          by_cases g1 : vh = va
          · rw [if_pos g1] at e
            exact absurd e (by decide)
          · rw [if_neg g1] at e
            by_cases g2 : va < vh
            · rw [if_pos g2] at e
              exact n1 e
            · rw [if_neg g2] at e
              exact n2 e
      · rw [if_neg f1]
        simp only [Int64.lt_iff_toInt_lt, ← Int64.toInt_inj] at *
        by_cases f2 : q.toInt < p.toInt
        · rw [if_pos f2]
          by_cases g1 : vh.toInt = va.toInt
          · rw [if_pos g1, if_neg (fun e => n4 e.symm), decide_eq_false (by omega)]
            rfl
          · rw [if_neg g1]
            by_cases g2 : va.toInt < vh.toInt
            · rw [if_pos g2, if_neg hna, decide_eq_false (by omega)]
              rfl
            · rw [if_neg g2, if_pos rfl, decide_eq_true ⟨c1, Or.inl ⟨f2, by omega⟩⟩]
              rfl
        · rw [if_neg f2]
          by_cases g1 : vh.toInt = va.toInt
          · rw [if_pos g1, if_neg (fun e => n3 e.symm), decide_eq_false (by omega)]
            rfl
          · rw [if_neg g1]
            by_cases g2 : va.toInt < vh.toInt
            · rw [if_pos g2, if_pos rfl, decide_eq_true ⟨c1, Or.inr ⟨by omega, g2⟩⟩]
              rfl
            · rw [if_neg g2, if_neg (fun e => hna e.symm), decide_eq_false (by omega)]
              rfl
    · rw [if_neg c1, decide_eq_false (fun q => c1 q.1), jI_succ]
      rfl) (a0 := ()) trivial
  refine h1.trans ?_
  show RR (pv_X0 L xs) (d + 1 + 1) 56 29 _ _ _ = _
  rw [B56_29, eN, if_pos jI_end]
theorem M_upL (h : Inv u) (hn6 : n ≤ 6) (h30 : N ≤ 30) (hn : gI u 1 = jI n) (hN : gI u 2 = jI N) (hN' : gI b 16 = jI N) (sm : sameR u b) {x3 : Int32} : RR (pv_X0 L xs) (d + 2) 166 29 [some (.ref 55), some (.int x), some (.int day), some (.int x3), some (.int 0), some (.int 0), none, none] [] (enc b) = some (some (.int (if x3 = 0 then jI (cntN (upB u day (gB b 23)) N) else x3)), enc b) := by
  obtain ⟨a0, a1, a2, a3, a4, b0, b1, -⟩ := sm
  obtain ⟨t, h1, -⟩ := pv_loop (R := fun k (t : Option Value × Option Value) => RR (pv_X0 L xs) (d + 2) 166 29 [some (.ref 55), some (.int x), some (.int day), some (.int x3), some (.int (jI (cntN (upB u day (gB b 23)) k))), some (.int (jI k)), t.1, t.2] [] (enc b)) (P := fun _ _ => True) (N := N) (fun k t hk _ => by
    obtain ⟨H, A, hH, hA, hHA, eH, eA⟩ := gm_of h hn6 hn hN h30 hk
    have z0 : ∀ c, jI c + 0 = jI c := fun c => jI_add (b := 0)
    have i1 : ∀ F : Nat → pv_R, pv_ix (jI k) 31 F = F k := fun F => pv_ixn (by omega) (by decide)
    have i2 : ∀ F : Nat → pv_R, pv_ix (jI H) 6 F = F H := fun F => pv_ixn (by omega) (by decide)
    have i3 : ∀ F : Nat → pv_R, pv_ix (jI A) 6 F = F A := fun F => pv_ixn (by omega) (by decide)
    refine (show ∃ t' : Option Value × Option Value, RR (pv_X0 L xs) (d + 1 + 1) 166 29 [some (.ref 55), some (.int x), some (.int day), some (.int x3), some (.int (jI (cntN (upB u day (gB b 23)) k))), some (.int (jI k)), t.1, t.2] [] (enc b) = RR (pv_X0 L xs) (d + 2) 166 29 [some (.ref 55), some (.int x), some (.int day), some (.int x3), some (.int (jI (cntN (upB u day (gB b 23)) k + (upB u day (gB b 23) k).toNat))), some (.int (jI (k + 1))), t'.1, t'.2] [] (enc b) ∧ True from ?_)
    rw [B166_29, hN', if_neg (jI_run hk (by omega)), M_counts hN' h30 (by omega), pv_bd_some]
    simp only [Option.toList_some, List.cons_append, List.nil_append]
    rw [B166_47, ite01, a4, a2]
    unfold upB
    rw [eH, eA, ixN_jI (by omega), ixN_jI (by omega)]
    by_cases c1 : gA u 4 k = 0 ∧ ¬ day < gA u 2 k
    · rw [if_pos ⟨hk, jI_nn (by omega), c1⟩, M_wonBy (by omega), pv_bd_some]
      simp only [Option.toList_some, List.cons_append, List.nil_append]
      rw [B166_56, b0, b1, a0, a1]
      simp only [i1, eH, eA, i2, i3, z0, jI_succ]
      generalize gB b 23 H = vh
      generalize gB b 23 A = va
      generalize gB u 0 k = p
      generalize gB u 1 k = q
      unfold wby
      by_cases f2 : q < p
      · simp only [if_pos f2]
        rw [if_pos trivial]
        by_cases g : vh < va
        · rw [if_pos (lg_lt.mpr g), decide_eq_true ⟨c1, Or.inl ⟨f2, g⟩⟩]
          exact ⟨(_, _), rfl, trivial⟩
        · rw [if_neg (fun e => g (lg_lt.mp e)), if_neg (by decide), decide_eq_false]
          · exact ⟨(_, _), rfl, trivial⟩
          · simp only [Int64.lt_iff_toInt_lt] at *
            omega
      · by_cases f3 : p < q
        · simp only [if_neg f2, if_pos f3]
          rw [if_neg (by decide), if_pos trivial]
          by_cases g : va < vh
          · rw [if_neg (fun e => lg_ge.mp e g), decide_eq_true ⟨c1, Or.inr ⟨f3, g⟩⟩]
            exact ⟨(_, _), rfl, trivial⟩
          · rw [if_pos (lg_ge.mpr g), decide_eq_false]
            · exact ⟨(_, _), rfl, trivial⟩
            · simp only [Int64.lt_iff_toInt_lt] at *
              omega
        · simp only [if_neg f2, if_neg f3]
          rw [if_neg (by decide), if_neg (by decide), decide_eq_false]
          · exact ⟨(_, _), rfl, trivial⟩
          · simp only [Int64.lt_iff_toInt_lt] at *
            omega
    · rw [if_neg (fun q => c1 q.2.2), decide_eq_false (fun q => c1 q.1), jI_succ]
      exact ⟨(_, _), rfl, trivial⟩) (a0 := (none, none)) trivial
  refine h1.trans ?_
  show RR (pv_X0 L xs) (d + 1 + 1) 166 29 _ _ _ = _
  rw [B166_29, hN', if_pos jI_end]
  by_cases e : x3 = 0
  · rw [if_pos e, if_pos e]
  · rw [if_neg e, if_neg e]
theorem up_congr {V W : Nat → Int64} (h : Inv u) (hn6 : n ≤ 6) (h30 : N ≤ 30) (hn : gI u 1 = jI n) (hN : gI u 2 = jI N) (e : ∀ i, i < n → V i = W i) : cntN (upB u day V) N = cntN (upB u day W) N := cnt_congr (fun k hk => by
  obtain ⟨H, A, hH, hA, hHA, eH, eA⟩ := gm_of h hn6 hn hN h30 hk
  unfold upB
  rw [eH, eA, ixN_jI (by omega), ixN_jI (by omega), e H hH, e A hA])
theorem P_upsets (h : Inv u) : Both L xs 56 166 [some (.ref 0), some (.int x), some (.int y), none, none, none] [some (.ref 55), some (.int x), some (.int y), none, none, none, none, none] u := by
  have h0 := h
  obtain ⟨n, N, h2n, hn6, h30, hn, hN, hn', hN'⟩ := rows_ctx h
  obtain ⟨⟨b1, b2, b3, b4, b5, b6, b7, b8, b9, b10⟩, ⟨g1, g2⟩, ⟨f1, f2⟩, ⟨t1, t2, t3⟩, ⟨p1, p2, p3⟩, hL, ⟨k1, k2, k3⟩⟩ := h
  by_cases q1 : asOk x y
  case neg =>
    refine ⟨.int (-1), u, u, ?_, ?_, h0, rfl⟩
    · simp only [B56_0, C_asked, B56_5, reduceIte, e10, pv_bd_some, Option.toList_some, Option.toList_none, List.cons_append, List.nil_append, List.append_nil, ite01, if_neg q1]
    · simp only [B166_0, M_asked, B166_5, reduceIte, e10, pv_bd_some, Option.toList_some, Option.toList_none, List.cons_append, List.nil_append, List.append_nil, ite01, ← b1, ← b3, z0, z1, z2, z3, z4, z5, z6, z7, z12, z20, z30, z99, y0, y1, y2, y3, y6, y7, y99, y15, if_neg q1]
  obtain ⟨c1, hc1, rc1, tp1⟩ := C_solveAsOf (L := L) (xs := xs) (d := 93) (m := x) (day := y) h0 h2n hn6 h30 hn hN
  have k2 := rc1.1
  obtain ⟨c2, hc2, rc2, e5, tp⟩ := M_solvesA (L := L) (xs := xs) (d := 95) (m := x) (day := y) h0 k2 h2n hn6 h30 hn hN hn' hN'
  have f15 : gI c2 15 = jI n := (rc2.1.1 15 (by decide)).trans ((k2.1 15 (by decide)).trans hn')
  have f16 : gI c2 16 = jI N := (rc2.1.1 16 (by decide)).trans ((k2.1 16 (by decide)).trans hN')
  have hg := M_against (L := L) (xs := xs) (d := 97) f15 hn6 tp e5
  have hm := fun x3 => M_upL (L := L) (xs := xs) (d := 97) (x := x) (day := y) (x3 := x3) h0 hn6 h30 hn hN f16 (sameR_of h0 (scr_trans k2 rc2.1))
  generalize MI (decide (x = 1)) n (mT u (cW u N y (-1) false)) (pT u (cW u N y (-1) false)) = M at *
  generalize RV (decide (x = 1)) n (rT u x (cW u N y (-1) false)) = R at *
  refine ⟨.int (if slA M R n = 0 then jI (cntN (upB u y (gB c2 23)) N) else slA M R n), c1, c2, ?_, ?_, Inv_scr h0 (scr_trans k2 rc2.1), rfl⟩
  · simp only [B56_0, C_asked, B56_5, reduceIte, e10, pv_bd_some, Option.toList_some, Option.toList_none, List.cons_append, List.nil_append, List.append_nil, ite01, if_pos q1, hc1]
    rw [B56_16]
    by_cases q : slA M R n = 0
    · obtain ⟨z1, z2⟩ := sl_0 q
      rw [if_pos q, if_pos q, q, up_congr h0 hn6 h30 hn hN (fun i hi => show gB c2 23 i = tpV M R n i by rw [(tp i hi).1, z2 i hi]; rfl)]
      exact C_upL (d := 97) h0 hn6 h30 hn hN k2 (tp1 z1)
    · rw [if_neg q, if_neg q]
  · simp only [B166_0, M_asked, B166_5, reduceIte, e10, pv_bd_some, Option.toList_some, Option.toList_none, List.cons_append, List.nil_append, List.append_nil, ite01, if_pos q1, hc2]
    rw [B166_18, hg, pv_bd_some]
    simp only [Option.toList_some, List.cons_append, List.nil_append]
    rw [B166_22]
    exact hm _
end UPSETS
