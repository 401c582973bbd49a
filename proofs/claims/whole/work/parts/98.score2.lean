/-! score, the reference's side (printed by wip/whole/ops/pp.py) -/
section SCORE2
variable {L : Nat} {xs : Nat → Int32} {u v a b c : pv_U} {d k n N F i j r q S C p t H A : Nat} {x y z w m day lo w4 e1 e2 : Int32} {M M2 : Nat → Nat → Int} {bl det : Int64} {mt : Nat → Nat → Nat} {pl : Nat → Nat} {R R2 : Nat → Int64} {V : Nat → Int64} {o : Nat → Nat} {wg : Bool} {T : Nat → Nat}
theorem M_sc1 (h : Inv u) (hn6 : n ≤ 6) (h30 : N ≤ 30) (hn : gI u 1 = jI n) (hN : gI u 2 = jI N) (hN' : gI b 16 = jI N) (sm : sameR u b) (ht : t < n) : ∃ x5 x6, RR (pv_X0 L xs) (d + 1) 181 5 [some (.ref 55), some (.int day), some (.int (jI t)), some (.int 0), some (.int 0), none, none, none] [] (enc b) = RR (pv_X0 L xs) (d + 1) 181 125 [some (.ref 55), some (.int day), some (.int (jI t)), some (.int (jI (sN (gpt u day t) N))), some (.int 0), x5, x6, none] [] (enc b) := by
  obtain ⟨a0, a1, a2, a3, a4, b0, b1, -⟩ := sm
  obtain ⟨⟨x5, x6⟩, h1, -⟩ := pv_loop (R := fun k (y : Option Value × Option Value) => RR (pv_X0 L xs) (d + 1) 181 5 [some (.ref 55), some (.int day), some (.int (jI t)), some (.int (jI (sN (gpt u day t) k))), some (.int (jI k)), y.1, y.2, none] [] (enc b)) (P := fun _ _ => True) (N := N) (fun k y hk _ => by
    obtain ⟨H, A, hH, hA, hHA, eH, eA⟩ := gm_of h hn6 hn hN h30 hk
    have z0 : ∀ c, jI c + 0 = jI c := fun c => jI_add (b := 0)
    have z2 : ∀ c, jI c + 2 = jI (c + 2) := fun c => jI_add (b := 2)
    have i1 : ∀ F : Nat → pv_R, pv_ix (jI k) 31 F = F k := fun F => pv_ixn (by omega) (by decide)
    have nt : ¬ (-5 : Int32) = jI t := fun q => jI_n5 (show t < 1000000 by omega) q.symm
    have nH := jI_n5 (show H < 1000000 by omega)
    have nA := jI_n5 (show A < 1000000 by omega)
    refine (show ∃ y' : Option Value × Option Value, RR (pv_X0 L xs) (d + 1) 181 5 [some (.ref 55), some (.int day), some (.int (jI t)), some (.int (jI (sN (gpt u day t) k))), some (.int (jI k)), y.1, y.2, none] [] (enc b) = RR (pv_X0 L xs) (d + 1) 181 5 [some (.ref 55), some (.int day), some (.int (jI t)), some (.int (jI (sN (gpt u day t) k + gpt u day t k))), some (.int (jI (k + 1))), y'.1, y'.2, none] [] (enc b) ∧ True from ?_)
    rw [B181_5, hN', if_neg (jI_run hk (by omega)), M_counts hN' h30 (by omega), pv_bd_some]
    simp only [Option.toList_some, List.cons_append, List.nil_append]
    rw [B181_23, ite01, a4, a2]
    have eH' : jI H = jI t ↔ H = t := jI_eq (by omega) (by omega)
    have eA' : jI A = jI t ↔ A = t := jI_eq (by omega) (by omega)
    unfold gpt
    rw [eH, eA]
    by_cases c1 : gA u 4 k = 0 ∧ ¬ day < gA u 2 k
    · rw [if_pos ⟨hk, jI_nn (by omega), c1⟩, if_pos c1]
      simp only [i1, a0, a1, eH, eA]
      have w54 : ∀ X5 X6 : Option Value, (H = t ∨ A = t) → ∃ y' : Option Value × Option Value, (pv_bd (RR (pv_X0 L xs) d 144 0 [some (.ref 55), some (.int (jI k))] [] (enc b)) fun v w => RR (pv_X0 L xs) (d + 1) 181 54 [some (.ref 55), some (.int day), some (.int (jI t)), some (.int (jI (sN (gpt u day t) k))), some (.int (jI k)), X5, X6, none] (v.toList ++ []) w) = RR (pv_X0 L xs) (d + 1) 181 5 [some (.ref 55), some (.int day), some (.int (jI t)), some (.int (jI (sN (gpt u day t) k + (if H = t then c3 (gB u 0 k) (gB u 1 k) else c3 (gB u 1 k) (gB u 0 k))))), some (.int (jI (k + 1))), y'.1, y'.2, none] [] (enc b) := by
        intro X5 X6 hta
        rw [M_wonBy (by omega), pv_bd_some]
        simp only [Option.toList_some, List.cons_append, List.nil_append]
        rw [B181_54, b0, b1]
        simp only [i1, a0, a1, eH, eA, if_neg nt, if_neg nH, if_neg nA, eH', eA', z0, z2, jI_succ]
        generalize gB u 0 k = p
        generalize gB u 1 k = q
        unfold wby c3
        by_cases f2 : q < p
        · have f3 : ¬ p < q := by rw [Int64.lt_iff_toInt_lt] at *; omega
          have f4 : ¬ p = q := fun e => f3 (by subst e; exact f2)
          have f5 : ¬ q = p := fun e => f4 e.symm
          simp only [if_pos f2, if_neg f3, if_neg f4, if_neg f5]
          rw [if_neg (show ¬ (1 : Int32) = 0 by decide), if_pos trivial]
          by_cases g : H = t
          · rw [if_pos g, if_pos g]
            exact ⟨(_, _), rfl⟩
          · rw [if_neg g, if_neg g]
            exact ⟨(_, _), rfl⟩
        · by_cases f3 : p < q
          · have f4 : ¬ p = q := fun e => f2 (by subst e; exact f3)
            have f5 : ¬ q = p := fun e => f4 e.symm
            simp only [if_neg f2, if_pos f3, if_neg f4, if_neg f5]
            rw [if_neg (show ¬ (2 : Int32) = 0 by decide), if_neg (show ¬ (2 : Int32) = 1 by decide)]
            by_cases g : H = t
            · rw [if_neg (fun e => hHA (g.trans e.symm)), if_pos g]
              exact ⟨(_, _), rfl⟩
            · rw [if_pos (hta.resolve_left g), if_neg g]
              exact ⟨(_, _), rfl⟩
          · have f4 : p = q := by
              rw [← Int64.toInt_inj]
              rw [Int64.lt_iff_toInt_lt] at *
              omega
            have f5 : q = p := f4.symm
            simp only [if_neg f2, if_neg f3, if_pos f4, if_pos f5]
            rw [if_pos trivial]
            refine ⟨(some (.int 0), some (.int (-5))), ?_⟩
            split <;> rfl
      simp only [eH', eA', jI_succ]
      by_cases g : H = t
      · simp only [if_pos g]
        obtain ⟨y', hy⟩ := w54 y.1 y.2 (Or.inl g)
        rw [if_pos g] at hy
        exact ⟨y', hy, trivial⟩
      · simp only [if_neg g]
        by_cases g2 : A = t
        · simp only [if_pos g2]
          obtain ⟨y', hy⟩ := w54 y.1 y.2 (Or.inr g2)
          rw [if_neg g] at hy
          exact ⟨y', hy, trivial⟩
        · simp only [if_neg g2]
          exact ⟨(y.1, y.2), rfl, trivial⟩
    · rw [if_neg (fun q => c1 q.2.2), if_neg c1, jI_succ]
      exact ⟨(y.1, y.2), rfl, trivial⟩) (a0 := (none, none)) trivial
  refine ⟨x5, x6, h1.trans ?_⟩
  show RR (pv_X0 L xs) (d + 1) 181 5 _ _ _ = _
  rw [B181_5, hN', if_pos jI_end]
theorem M_sc2 (h : Inv u) (hn6 : n ≤ 6) (hn : gI u 1 = jI n) (hF : gI u 3 = jI F) (h12 : F ≤ 12) (hF' : gI b 17 = jI F) (e31 : gA b 31 = gA u 31) (ht : t < n) {s : Nat} (y5 y6 : Option Value) : RR (pv_X0 L xs) d 181 125 [some (.ref 55), some (.int day), some (.int (jI t)), some (.int (jI s)), some (.int 0), y5, y6, none] [] (enc b) = some (some (.int (jI (s + sN (fpt u (gB b 23) t) F))), enc b) := by
  obtain ⟨⟨x5, x6, x7⟩, h1, -⟩ := pv_loop (R := fun k (y : Option Value × Option Value × Option Value) => RR (pv_X0 L xs) d 181 125 [some (.ref 55), some (.int day), some (.int (jI t)), some (.int (jI (s + sN (fpt u (gB b 23) t) k))), some (.int (jI k)), y.1, y.2.1, y.2.2] [] (enc b)) (P := fun _ _ => True) (N := F) (fun k y hk _ => by
    obtain ⟨H, A, hH, hA, hHA, eH, eA⟩ := fx_of h hn6 hn hF h12 hk
    have z0 : ∀ c, jI c + 0 = jI c := fun c => jI_add (b := 0)
    have z2 : ∀ c, jI c + 2 = jI (c + 2) := fun c => jI_add (b := 2)
    have m1 : (2 : Int32) * jI k = jI (2 * k) := jI_mul (a := 2)
    have j1 : ∀ F : Nat → pv_R, pv_ix (jI (2 * k)) 24 F = F (2 * k) := fun F => pv_ixn (by omega) (by decide)
    have j2 : ∀ F : Nat → pv_R, pv_ix (jI (2 * k + 1)) 24 F = F (2 * k + 1) := fun F => pv_ixn (by omega) (by decide)
    have j3 : ∀ F : Nat → pv_R, pv_ix (jI t) 6 F = F t := fun F => pv_ixn (by omega) (by decide)
    have j4 : ∀ F : Nat → pv_R, pv_ix (jI H) 6 F = F H := fun F => pv_ixn (by omega) (by decide)
    have j5 : ∀ F : Nat → pv_R, pv_ix (jI A) 6 F = F A := fun F => pv_ixn (by omega) (by decide)
    have f1 : gA u 31 (2 * k) = jI H := (h.2.2.1.1 k (by omega)).1.symm.trans eH
    have f2 : gA u 31 (2 * k + 1) = jI A := (h.2.2.1.1 k (by omega)).2.symm.trans eA
    have eH' : jI H = jI t ↔ H = t := jI_eq (by omega) (by omega)
    have eA' : jI A = jI t ↔ A = t := jI_eq (by omega) (by omega)
    refine (show ∃ y' : Option Value × Option Value × Option Value, RR (pv_X0 L xs) d 181 125 [some (.ref 55), some (.int day), some (.int (jI t)), some (.int (jI (s + sN (fpt u (gB b 23) t) k))), some (.int (jI k)), y.1, y.2.1, y.2.2] [] (enc b) = RR (pv_X0 L xs) d 181 125 [some (.ref 55), some (.int day), some (.int (jI t)), some (.int (jI (s + (sN (fpt u (gB b 23) t) k + fpt u (gB b 23) t k)))), some (.int (jI (k + 1))), y'.1, y'.2.1, y'.2.2] [] (enc b) ∧ True from ?_)
    rw [B181_125, hF', if_neg (jI_run hk (by omega))]
    unfold fpt
    rw [eH, eA, ixN_jI (by omega), ixN_jI (by omega)]
    simp only [m1, jI_succ, j1, j2, e31, f1, f2, eH', eA', j3, j4, j5, z0, z2, lg_le, lg_eq]
    unfold c3
    by_cases g : H = t
    · subst g
      simp only [reduceIte]
      by_cases q1 : gB b 23 A < gB b 23 H
      · rw [if_neg (fun e => e q1), if_pos q1]
        exact ⟨(_, _, _), rfl, trivial⟩
      · rw [if_pos q1, if_neg q1]
        by_cases q2 : gB b 23 H = gB b 23 A
        · rw [if_pos q2, if_pos q2]
          exact ⟨(_, _, _), rfl, trivial⟩
        · rw [if_neg q2, if_neg q2]
          exact ⟨(_, _, _), rfl, trivial⟩
    · simp only [if_neg g]
      by_cases g2 : A = t
      · subst g2
        simp only [reduceIte]
        by_cases q1 : gB b 23 H < gB b 23 A
        · rw [if_neg (fun e => e q1), if_pos q1]
          exact ⟨(_, _, _), rfl, trivial⟩
        · rw [if_pos q1, if_neg q1]
          by_cases q2 : gB b 23 A = gB b 23 H
          · rw [if_pos q2, if_pos q2]
            exact ⟨(_, _, _), rfl, trivial⟩
          · rw [if_neg q2, if_neg q2]
            exact ⟨(_, _, _), rfl, trivial⟩
      · simp only [if_neg g2]
        exact ⟨(_, _, _), rfl, trivial⟩) (a0 := (y5, y6, none)) trivial
  refine h1.trans ?_
  show RR (pv_X0 L xs) d 181 125 _ _ _ = _
  rw [B181_125, hF', if_pos jI_end]
theorem M_scoreOf (h : Inv u) (hn6 : n ≤ 6) (h30 : N ≤ 30) (hn : gI u 1 = jI n) (hN : gI u 2 = jI N) (hF : gI u 3 = jI F) (h12 : F ≤ 12) (s : scr u b) (ht : t < n) : RR (pv_X0 L xs) (d + 1) 181 0 [some (.ref 55), some (.int day), some (.int (jI t)), none, none, none, none, none] [] (enc b) = some (some (.int (jI (scT u day (gB b 23) N F t))), enc b) := by
  have e16 : gI b 16 = jI N := (s.1 16 (by decide)).trans (h.1.2.2.1.symm.trans hN)
  have e17 : gI b 17 = jI F := (s.1 17 (by decide)).trans (h.1.2.2.2.2.1.symm.trans hF)
  obtain ⟨x5, x6, h1⟩ := M_sc1 (L := L) (xs := xs) (d := d) (day := day) h hn6 h30 hn hN e16 (sameR_of h s) ht
  rw [B181_0, h1, M_sc2 h hn6 hn hF h12 e17 (s.2.2.1 31 (by decide)) ht]
  rfl
theorem sc_congr {V W : Nat → Int64} (h : Inv u) (hn6 : n ≤ 6) (hn : gI u 1 = jI n) (hF : gI u 3 = jI F) (h12 : F ≤ 12) (e : ∀ i, i < n → V i = W i) : scT u day V N F t = scT u day W N F t := by
  unfold scT
  rw [sN_congr (f := fpt u V t) (g := fpt u W t) (fun k hk => by
    obtain ⟨H, A, hH, hA, hHA, eH, eA⟩ := fx_of h hn6 hn hF h12 hk
    unfold fpt
    rw [eH, eA, ixN_jI (by omega), ixN_jI (by omega), e H hH, e A hA])]
theorem fx_ctx (h : Inv u) : ∃ F, F ≤ 12 ∧ gI u 3 = jI F := by
  obtain ⟨b1, b2, b3, b4, b5, b6, _⟩ := h.1
  have e2 := i32_nat b6.1
  exact ⟨(gI u 3).toInt.toNat, by omega, e2⟩
theorem P_score (h : Inv u) : Both L xs 72 180 [some (.ref 0), some (.int x), some (.int y), some (.int z), none] [some (.ref 55), some (.int x), some (.int y), some (.int z), none] u := by
  have h0 := h
  obtain ⟨n, N, h2n, hn6, h30, hn, hN, hn', hN'⟩ := rows_ctx h
  obtain ⟨F, h12, hF⟩ := fx_ctx h
  obtain ⟨⟨b1, b2, b3, b4, b5, b6, b7, b8, b9, b10⟩, ⟨g1, g2⟩, ⟨f1, f2⟩, ⟨t1, t2, t3⟩, ⟨p1, p2, p3⟩, hL, ⟨k1, k2, k3⟩⟩ := h
  have n15 : 0 ≤ (gI u 15).toInt := by rw [← b1]; omega
  by_cases q1 : asOk x y
  case neg =>
    refine ⟨.int (-1), u, u, ?_, ?_, h0, rfl⟩
    · simp only [B72_0, C_asked, C_team, B72_5, B72_16, reduceIte, e10, pv_bd_some, Option.toList_some, Option.toList_none, List.cons_append, List.nil_append, List.append_nil, ite01, if_neg q1]
    · simp only [B180_0, M_asked, M_team n15, B180_5, B180_13, reduceIte, e10, pv_bd_some, Option.toList_some, Option.toList_none, List.cons_append, List.nil_append, List.append_nil, ite01, ← b1, ← b3, z0, z1, z2, z3, z4, z5, z6, z7, z12, z20, z30, z99, y0, y1, y2, y3, y6, y7, y99, y15, if_neg q1]
  by_cases q2 : tmOk (gI u 1) z
  case neg =>
    refine ⟨.int (-1), u, u, ?_, ?_, h0, rfl⟩
    · simp only [B72_0, C_asked, C_team, B72_5, B72_16, reduceIte, e10, pv_bd_some, Option.toList_some, Option.toList_none, List.cons_append, List.nil_append, List.append_nil, ite01, if_pos q1, if_neg q2]
    · simp only [B180_0, M_asked, M_team n15, B180_5, B180_13, reduceIte, e10, pv_bd_some, Option.toList_some, Option.toList_none, List.cons_append, List.nil_append, List.append_nil, ite01, ← b1, ← b3, z0, z1, z2, z3, z4, z5, z6, z7, z12, z20, z30, z99, y0, y1, y2, y3, y6, y7, y99, y15, if_pos q1, if_neg q2]
  obtain ⟨i, hi, ei⟩ := tm_at hn6 (hn ▸ q2)
  obtain ⟨c1, hc1, rc1, tp1⟩ := C_solveAsOf (L := L) (xs := xs) (d := 93) (m := x) (day := y) h0 h2n hn6 h30 hn hN
  have cs : ∃ c1' ans, RR (pv_X0 L xs) 99 72 27 [some (.ref 0), some (.int x), some (.int y), some (.int z), none] [.int (slA (MI (decide (x = 1)) n (mT u (cW u N y (-1) false)) (pT u (cW u N y (-1) false))) (RV (decide (x = 1)) n (rT u x (cW u N y (-1) false))) n)] (enc c1) = some (some (.int ans), enc c1') ∧ scr u c1' ∧ ((slA (MI (decide (x = 1)) n (mT u (cW u N y (-1) false)) (pT u (cW u N y (-1) false))) (RV (decide (x = 1)) n (rT u x (cW u N y (-1) false))) n) = 0 → ans = jI (scT u y (tpV (MI (decide (x = 1)) n (mT u (cW u N y (-1) false)) (pT u (cW u N y (-1) false))) (RV (decide (x = 1)) n (rT u x (cW u N y (-1) false))) n) N F i)) ∧ (¬ (slA (MI (decide (x = 1)) n (mT u (cW u N y (-1) false)) (pT u (cW u N y (-1) false))) (RV (decide (x = 1)) n (rT u x (cW u N y (-1) false))) n) = 0 → ans = (slA (MI (decide (x = 1)) n (mT u (cW u N y (-1) false)) (pT u (cW u N y (-1) false))) (RV (decide (x = 1)) n (rT u x (cW u N y (-1) false))) n)) := by
    generalize MI (decide (x = 1)) n (mT u (cW u N y (-1) false)) (pT u (cW u N y (-1) false)) = M at *
    generalize RV (decide (x = 1)) n (rT u x (cW u N y (-1) false)) = R at *
    by_cases q : slA M R n = 0
    · obtain ⟨z1, z2⟩ := sl_0 q
      obtain ⟨b, g1, g2, g3⟩ := C_tell (L := L) (xs := xs) (d := 97) (day := y) (a := c1) (V := tpV M R n) h0 hn6 h30 hn hN hF h12 rc1.1 rc1.2.1 (tp1 z1)
      refine ⟨b, jI (scT u y (tpV M R n) N F i), ?_, sfr_scr rc1.1 g2, fun _ => rfl, fun e => absurd q e⟩
      rw [B72_27, if_pos q, g1, pv_bd_some]
      simp only [Option.toList_none, List.nil_append]
      rw [B72_53, ei, pv_ixn (by omega) (by decide), g3 i hi]
    · refine ⟨c1, slA M R n, ?_, rc1.1, fun e => absurd e q, fun _ => rfl⟩
      rw [B72_27, if_neg q]
  obtain ⟨c1', ans, k1, k2, k3, k4⟩ := cs
  obtain ⟨c2, hc2, rc2, e5, tp⟩ := M_solvesA (L := L) (xs := xs) (d := 95) (m := x) (day := y) h0 k2 h2n hn6 h30 hn hN hn' hN'
  have e15 : gI c1' 15 = gI u 15 := k2.1 15 (by decide)
  have e15' : gI c1' 15 = gI u 1 := e15.trans b1.symm
  have f15 : gI c2 15 = jI n := (rc2.1.1 15 (by decide)).trans (e15.trans hn')
  have hg := M_against (L := L) (xs := xs) (d := 97) f15 hn6 tp e5
  refine ⟨.int ans, c1', c2, ?_, ?_, Inv_scr h0 (scr_trans k2 rc2.1), rfl⟩
  · simp only [B72_0, C_asked, C_team, B72_5, B72_16, reduceIte, e10, pv_bd_some, Option.toList_some, Option.toList_none, List.cons_append, List.nil_append, List.append_nil, ite01, if_pos q1, if_pos q2, hc1]
    exact k1
  · simp only [B180_0, M_asked, M_team (e15 ▸ n15), B180_5, B180_13, reduceIte, e10, pv_bd_some, Option.toList_some, Option.toList_none, List.cons_append, List.nil_append, List.append_nil, ite01, e15', if_pos q1, if_pos q2, hc2]
    rw [B180_26, hg, pv_bd_some]
    simp only [Option.toList_some, List.cons_append, List.nil_append]
    rw [B180_30]
    generalize MI (decide (x = 1)) n (mT u (cW u N y (-1) false)) (pT u (cW u N y (-1) false)) = M at *
    generalize RV (decide (x = 1)) n (rT u x (cW u N y (-1) false)) = R at *
    by_cases q : slA M R n = 0
    · obtain ⟨z1, z2⟩ := sl_0 q
      rw [if_pos q, ei, M_scoreOf (d := 97) h0 hn6 h30 hn hN hF h12 (scr_trans k2 rc2.1) hi, pv_bd_some]
      simp only [Option.toList_some, List.cons_append, List.nil_append]
      rw [B180_48, k3 q, sc_congr h0 hn6 hn hF h12 (fun i hi => show gB c2 23 i = tpV M R n i by rw [(tp i hi).1, z2 i hi]; rfl)]
    · rw [if_neg q, B180_48, k4 q]
end SCORE2
