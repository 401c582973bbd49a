/-! judge, the reference's side (printed by wip/whole/ops/pp.py) -/
section JUDGE2
variable {L : Nat} {xs : Nat → Int32} {u v a b c : pv_U} {d k n N F i j r q S C p l B : Nat} {x y z w m day lo w4 : Int32} {M : Nat → Nat → Int} {bl X0 s t : Int64} {mt : Nat → Nat → Nat} {pl : Nat → Nat} {R X : Nat → Int64}
theorem ov_1 : ovM t 1 = ovM 1 t := by
  unfold ovM
  refine decide_eq_decide.mpr ?_
  have e1 : t * 1 / 1 = t := by rw [Int64.mul_one, Int64.div_one]
  constructor
  · rintro (⟨h, -⟩ | ⟨-, h⟩)
    · exact absurd h (by decide)
    · exact absurd e1 h
  · rintro (⟨-, h⟩ | ⟨h1, h2⟩)
    · exact absurd h (by decide)
    · refine absurd ?_ h2
      rw [Int64.one_mul]
      rw [Int64.div_self, if_neg h1]
theorem bm64 {x : Int} (h1 : -9223372036854775808 ≤ x) (h2 : x < 9223372036854775808) : x.bmod (2 ^ 64) = x := Int.bmod_eq_of_le (by omega) (by omega)
theorem ov_2 : ovM t 2 = ovM 2 t := by
  unfold ovM
  refine decide_eq_decide.mpr ?_
  have l1 := t.le_toInt
  have l2 := t.toInt_lt
  have z2 : (2 : Int64).toInt = 2 := by decide
  have n2 : ¬ ((2 : Int64) = -1 ∧ t = -9223372036854775808) := fun q => absurd q.1 (by decide)
  have n3 : ¬ (t = -1 ∧ (2 : Int64) = -9223372036854775808) := fun q => absurd q.2 (by decide)
  have n4 : ¬ (2 : Int64) = 0 := by decide
  have c1 : t * 2 / 2 = t ↔ (-4611686018427387904 ≤ t.toInt ∧ t.toInt < 4611686018427387904) := by
    rw [← Int64.toInt_inj, Int64.toInt_div, Int64.toInt_mul, z2]
    by_cases h1 : t.toInt < -4611686018427387904
    · have e : (t.toInt * 2).bmod (2 ^ 64) = 2 * (t.toInt + 9223372036854775808) := by
        rw [Int.bmod_def]
        split <;> omega
      rw [e, Int.mul_tdiv_cancel_left _ (by decide), bm64 (by omega) (by omega)]
      omega
    · by_cases h2 : t.toInt < 4611686018427387904
      · have e : (t.toInt * 2).bmod (2 ^ 64) = 2 * t.toInt := by
          rw [bm64 (by omega) (by omega)]
          omega
        rw [e, Int.mul_tdiv_cancel_left _ (by decide), bm64 (by omega) (by omega)]
        omega
      · have e : (t.toInt * 2).bmod (2 ^ 64) = 2 * (t.toInt - 9223372036854775808) := by
          rw [Int.bmod_def]
          split <;> omega
        rw [e, Int.mul_tdiv_cancel_left _ (by decide), bm64 (by omega) (by omega)]
        omega
  have c2 : ¬ t = 0 → (2 * t / t = 2 ↔ (-4611686018427387904 ≤ t.toInt ∧ t.toInt < 4611686018427387904)) := fun h0 => by
    have h0 : ¬ t.toInt = 0 := fun q => h0 (Int64.toInt_inj.mp q)
    rw [← Int64.toInt_inj, Int64.toInt_div, Int64.toInt_mul, z2]
    by_cases h1 : t.toInt < -4611686018427387904
    · have e : (2 * t.toInt).bmod (2 ^ 64) = 2 * t.toInt + 18446744073709551616 := by
        rw [Int.bmod_def]
        split <;> omega
      rw [e]
      have e2 := Int.mul_tdiv_add_tmod (2 * t.toInt + 18446744073709551616) t.toInt
      have e3 : ((2 * t.toInt + 18446744073709551616).tmod t.toInt).natAbs < t.toInt.natAbs := by
        rw [Int.natAbs_tmod]
        exact Nat.mod_lt _ (by omega)
      have e4 : ((2 * t.toInt + 18446744073709551616).tdiv t.toInt).natAbs ≤ (2 * t.toInt + 18446744073709551616).natAbs := by
        rw [Int.natAbs_tdiv]
        exact Nat.div_le_self _ _
      generalize (2 * t.toInt + 18446744073709551616).tdiv t.toInt = Q at *
      rw [bm64 (by omega) (by omega)]
      constructor
      · intro q
        subst q
        omega
      · omega
    · by_cases h2 : t.toInt < 4611686018427387904
      · rw [bm64 (x := 2 * t.toInt) (by omega) (by omega), Int.mul_tdiv_cancel _ h0, bm64 (by omega) (by omega)]
        omega
      · have e : (2 * t.toInt).bmod (2 ^ 64) = 2 * t.toInt - 18446744073709551616 := by
          rw [Int.bmod_def]
          split <;> omega
        rw [e]
        have e2 := Int.mul_tdiv_add_tmod (2 * t.toInt - 18446744073709551616) t.toInt
        have e3 : ((2 * t.toInt - 18446744073709551616).tmod t.toInt).natAbs < t.toInt.natAbs := by
          rw [Int.natAbs_tmod]
          exact Nat.mod_lt _ (by omega)
        have e4 : ((2 * t.toInt - 18446744073709551616).tdiv t.toInt).natAbs ≤ (2 * t.toInt - 18446744073709551616).natAbs := by
          rw [Int.natAbs_tdiv]
          exact Nat.div_le_self _ _
        have e5 : t.toInt = 4611686018427387904 → (2 * t.toInt - 18446744073709551616).tdiv t.toInt = -2 := fun e => by
          rw [e]
          decide
        generalize (2 * t.toInt - 18446744073709551616).tdiv t.toInt = Q at *
        by_cases e6 : t.toInt = 4611686018427387904
        · rw [e5 e6, e6]
          decide
        · rw [bm64 (by omega) (by omega)]
          constructor
          · intro q
            subst q
            omega
          · omega
  constructor
  · rintro (h | ⟨-, h⟩)
    · exact absurd h n2
    · refine Or.inr ⟨fun e => h ?_, fun e => h (c1.mpr ((c2 ?_).mp e))⟩
      · subst e
        decide
      · intro e0
        subst e0
        exact h (by decide)
  · rintro (h | ⟨h1, h2⟩)
    · exact absurd h n3
    · exact Or.inr ⟨n4, fun e => h2 ((c2 h1).mpr (c1.mp e))⟩
theorem ov_bl (h : bl = 1 ∨ bl = 2) : ovM t bl = ovM bl t := h.elim (fun e => e ▸ ov_1) (fun e => e ▸ ov_2)
theorem M_jrow (hr : RM v a n bl mt M R) (hbl : bl = 1 ∨ bl = 2) (hn6 : n ≤ 6) (hn : gI v 15 = jI n) (hl : l < 4) (hi : i < n) (hB : B + n < 20) (hX : ∀ j, j < n → gB a 24 (20 * l + (B + 1 + j)) = X j) (hX0 : gB a 24 (20 * l + B) = X0) {x3 x4 : Int32} (x7 x9 : Option Value) : ∃ b x7' x9', RR (pv_X0 L xs) (d + 1) 211 75 [some (.ref 55), some (.int x), some (.int y), some (.int x3), some (.int x4), some (.int (jI (20 * l + B))), some (.int (jI i)), x7, none, x9, none, none] [] (enc a) = (match jRow bl M R X X0 n i with | some e => some (some (.int e), enc b) | none => RR (pv_X0 L xs) (d + 1) 211 75 [some (.ref 55), some (.int x), some (.int y), some (.int x3), some (.int x4), some (.int (jI (20 * l + B))), some (.int (jI (i + 1))), x7', none, x9', none, none] [] (enc b)) ∧ ufr a b := by
  have e15 : gI a 15 = jI n := (hr.1.1 15 (by decide)).trans hn
  obtain ⟨⟨tv, x10, b1⟩, h1, h2, h3, h4⟩ := pv_loop (R := fun k (t : Int64 × Option Value × pv_U) => RR (pv_X0 L xs) (d + 1) 211 95 [some (.ref 55), some (.int x), some (.int y), some (.int x3), some (.int x4), some (.int (jI (20 * l + B))), some (.int (jI i)), some (.long t.1), none, some (.int (jI k)), t.2.1, none] [] (enc t.2.2)) (P := fun k t => ufr a t.2.2 ∧ gI t.2.2 19 = cond (tlN (fun j => Int64.ofInt (M i j)) X k).2 1 0 ∧ ((tlN (fun j => Int64.ofInt (M i j)) X k).2 = false → t.1 = (tlN (fun j => Int64.ofInt (M i j)) X k).1)) (N := n) (fun k t hk ht => by
    obtain ⟨s, x10, b⟩ := t
    obtain ⟨f, e1, e2⟩ := ht
    have f : ufr a b := f
    have e1 : gI b 19 = _ := e1
    have e2 : _ → s = _ := e2
    have rb := RM_ufr hr f
    have em : (6 : Int32) * jI i + jI k = jI (6 * i + k) := by rw [show (6 : Int32) * jI i = jI (6 * i) from jI_mul (a := 6), jI_add]
    have em2 : jI (20 * l + B) + 1 + jI k = jI (20 * l + (B + 1 + k)) := by rw [jI_succ, jI_add, show 20 * l + B + 1 + k = 20 * l + (B + 1 + k) by omega]
    have st : RR (pv_X0 L xs) (d + 1) 211 95 [some (.ref 55), some (.int x), some (.int y), some (.int x3), some (.int x4), some (.int (jI (20 * l + B))), some (.int (jI i)), some (.long s), none, some (.int (jI k)), x10, none] [] (enc b) = RR (pv_X0 L xs) (d + 1) 211 95 [some (.ref 55), some (.int x), some (.int y), some (.int x3), some (.int x4), some (.int (jI (20 * l + B))), some (.int (jI i)), some (.long (cond (ovA s (cond (ovM (Int64.ofInt (M i k)) (X k)) 0 (Int64.ofInt (M i k) * X k))) 0 (s + cond (ovM (Int64.ofInt (M i k)) (X k)) 0 (Int64.ofInt (M i k) * X k)))), none, some (.int (jI (k + 1))), some (.long (cond (ovM (Int64.ofInt (M i k)) (X k)) 0 (Int64.ofInt (M i k) * X k))), none] [] (enc (cond (ovA s (cond (ovM (Int64.ofInt (M i k)) (X k)) 0 (Int64.ofInt (M i k) * X k))) (uI (cond (ovM (Int64.ofInt (M i k)) (X k)) (uI b 19 1) b) 19 1) (cond (ovM (Int64.ofInt (M i k)) (X k)) (uI b 19 1) b))) := by
      rw [B211_95, (f.1 15 (by decide)).trans e15, if_neg (jI_run hk (by omega)), em, em2, pv_ixn (by omega) (by decide), pv_ixn (by omega) (by decide), ((rb.2.2 i hi).2 k hk).2, show gB b 24 = gB a 24 from f.2.2.2 24 (by decide), hX k hk, M_times, pv_bd_some]
      simp only [Option.toList_some, List.cons_append, List.nil_append]
      rw [B211_133, M_plus, pv_bd_some]
      simp only [Option.toList_some, List.cons_append, List.nil_append]
      rw [B211_143, jI_succ]
    refine ⟨(_, _, _), st, ?_⟩
    show ufr a (cond (ovA s (cond (ovM (Int64.ofInt (M i k)) (X k)) 0 (Int64.ofInt (M i k) * X k))) (uI (cond (ovM (Int64.ofInt (M i k)) (X k)) (uI b 19 1) b) 19 1) (cond (ovM (Int64.ofInt (M i k)) (X k)) (uI b 19 1) b)) ∧ gI (cond (ovA s (cond (ovM (Int64.ofInt (M i k)) (X k)) 0 (Int64.ofInt (M i k) * X k))) (uI (cond (ovM (Int64.ofInt (M i k)) (X k)) (uI b 19 1) b) 19 1) (cond (ovM (Int64.ofInt (M i k)) (X k)) (uI b 19 1) b)) 19 = cond ((tlN (fun j => Int64.ofInt (M i j)) X k).2 || (ovM (Int64.ofInt (M i k)) (X k) || ovA (tlN (fun j => Int64.ofInt (M i j)) X k).1 (Int64.ofInt (M i k) * X k))) 1 0 ∧ (((tlN (fun j => Int64.ofInt (M i j)) X k).2 || (ovM (Int64.ofInt (M i k)) (X k) || ovA (tlN (fun j => Int64.ofInt (M i j)) X k).1 (Int64.ofInt (M i k) * X k))) = false → cond (ovA s (cond (ovM (Int64.ofInt (M i k)) (X k)) 0 (Int64.ofInt (M i k) * X k))) 0 (s + cond (ovM (Int64.ofInt (M i k)) (X k)) 0 (Int64.ofInt (M i k) * X k)) = (tlN (fun j => Int64.ofInt (M i j)) X k).1 + Int64.ofInt (M i k) * X k)
    have g1 : ufr a (uI b 19 1) := ufr_trans f ufr_I
    have g2 : ufr a (uI (uI b 19 1) 19 1) := ufr_trans g1 ufr_I
    have g3 : ∀ b : pv_U, gI (uI b 19 1) 19 = 1 := fun b => by simp only [gI_uI, gI_uJ, gI_uA, gI_uB, gJ_uI, gJ_uJ, gJ_uA, gJ_uB, gA_uI, gA_uJ, gA_uA, gA_uB, gB_uI, gB_uJ, gB_uA, gB_uB, reduceIte]
    generalize (tlN (fun j => Int64.ofInt (M i j)) X k).1 = T at *
    generalize Int64.ofInt (M i k) * X k = p at *
    cases h : (tlN (fun j => Int64.ofInt (M i j)) X k).2 with
    | true =>
      rw [h] at e1
      rw [Bool.true_or]
      refine ⟨?_, ?_, fun q => nomatch q⟩
      · cases ovM (Int64.ofInt (M i k)) (X k) with
        | true => cases ovA s (cond true 0 p) with
          | true => exact g2
          | false => exact g1
        | false => cases ovA s (cond false 0 p) with
          | true => exact g1
          | false => exact f
      · cases ovM (Int64.ofInt (M i k)) (X k) with
        | true => cases ovA s (cond true 0 p) with
          | true => exact g3 _
          | false => exact g3 _
        | false => cases ovA s (cond false 0 p) with
          | true => exact g3 _
          | false => exact e1
    | false =>
      rw [h] at e1
      have e2 := e2 h
      subst e2
      rw [Bool.false_or]
      cases ovM (Int64.ofInt (M i k)) (X k) with
      | true =>
        rw [show ovA s (cond true 0 p) = false from ovA_s0, Bool.true_or]
        exact ⟨g1, g3 _, fun q => nomatch q⟩
      | false =>
        rw [Bool.false_or]
        show ufr a (cond (ovA s p) (uI b 19 1) b) ∧ gI (cond (ovA s p) (uI b 19 1) b) 19 = cond (ovA s p) 1 0 ∧ (ovA s p = false → cond (ovA s p) 0 (s + p) = s + p)
        cases ovA s p with
        | true => exact ⟨g1, g3 _, fun q => nomatch q⟩
        | false => exact ⟨f, e1, fun _ => rfl⟩) (a0 := (0, none, uI a 19 0)) ⟨ufr_I, by show gI (uI a 19 0) 19 = _; simp only [gI_uI, gI_uJ, gI_uA, gI_uB, gJ_uI, gJ_uJ, gJ_uA, gJ_uB, gA_uI, gA_uJ, gA_uA, gA_uB, gB_uI, gB_uJ, gB_uA, gB_uB, reduceIte]; rfl, fun _ => rfl⟩
  have rb := RM_ufr hr h2
  have st : RR (pv_X0 L xs) (d + 1) 211 95 [some (.ref 55), some (.int x), some (.int y), some (.int x3), some (.int x4), some (.int (jI (20 * l + B))), some (.int (jI i)), some (.long tv), none, some (.int (jI n)), x10, none] [] (enc b1) = RR (pv_X0 L xs) (d + 1) 211 181 [some (.ref 55), some (.int x), some (.int y), some (.int x3), some (.int x4), some (.int (jI (20 * l + B))), some (.int (jI i)), some (.long (cond (ovM tv bl) 0 (tv * bl))), none, some (.int (jI n)), x10, none] [.long (cond (ovM (R i) X0) 0 (R i * X0))] (enc (cond (ovM (R i) X0) (uI (cond (ovM tv bl) (uI b1 19 1) b1) 19 1) (cond (ovM tv bl) (uI b1 19 1) b1))) := by
    rw [B211_95, (h2.1 15 (by decide)).trans e15, if_pos jI_end, M_times, pv_bd_some, rb.2.1]
    simp only [Option.toList_some, List.cons_append, List.nil_append]
    have eB : ∀ o r, gB (cond o (uI b1 19 1) b1) r = gB b1 r := fun o r => by cases o <;> rfl
    rw [B211_161, pv_ixn (by omega) (by decide), pv_ixn (by omega) (by decide), eB, eB, (rb.2.2 i hi).1, show gB b1 24 = gB a 24 from h2.2.2.2 24 (by decide), hX0, M_times, pv_bd_some]
    rfl
  have g1 : ufr a (uI b1 19 1) := ufr_trans h2 ufr_I
  have g2 : ufr a (uI (uI b1 19 1) 19 1) := ufr_trans g1 ufr_I
  have g3 : ∀ b : pv_U, gI (uI b 19 1) 19 = 1 := fun b => by simp only [gI_uI, gI_uJ, gI_uA, gI_uB, gJ_uI, gJ_uJ, gJ_uA, gJ_uB, gA_uI, gA_uJ, gA_uA, gA_uB, gB_uI, gB_uJ, gB_uA, gB_uB, reduceIte]
  have st0 : ∀ r, RR (pv_X0 L xs) (d + 1) 211 181 [some (.ref 55), some (.int x), some (.int y), some (.int x3), some (.int x4), some (.int (jI (20 * l + B))), some (.int (jI i)), some (.long (cond (ovM tv bl) 0 (tv * bl))), none, some (.int (jI n)), x10, none] [.long (cond (ovM (R i) X0) 0 (R i * X0))] (enc (cond (ovM (R i) X0) (uI (cond (ovM tv bl) (uI b1 19 1) b1) 19 1) (cond (ovM tv bl) (uI b1 19 1) b1))) = r → RR (pv_X0 L xs) (d + 1) 211 75 [some (.ref 55), some (.int x), some (.int y), some (.int x3), some (.int x4), some (.int (jI (20 * l + B))), some (.int (jI i)), x7, none, x9, none, none] [] (enc a) = r := fun r hr => by
    rw [B211_75, e15, if_neg (jI_run hi (by omega))]
    exact (h1.trans st).trans hr
  have one : ¬ (1 : Int32) = 0 := by decide
  unfold jRow
  cases h : (tlN (fun j => Int64.ofInt (M i j)) X n).2 with
  | true =>
    rw [h] at h3
    have h3 : gI b1 19 = 1 := h3
    refine ⟨cond (ovM (R i) X0) (uI (cond (ovM tv bl) (uI b1 19 1) b1) 19 1) (cond (ovM tv bl) (uI b1 19 1) b1), none, none, st0 _ ?_, ?_⟩
    · rw [B211_181, Bool.true_or, if_pos rfl]
      cases ovM (R i) X0 with
      | true => rw [show cond true (uI (cond (ovM tv bl) (uI b1 19 1) b1) 19 1) (cond (ovM tv bl) (uI b1 19 1) b1) = uI (cond (ovM tv bl) (uI b1 19 1) b1) 19 1 from rfl, g3, if_neg one]
      | false =>
        show (if gI (cond (ovM tv bl) (uI b1 19 1) b1) 19 = 0 then _ else some (some (Value.int (-6)), enc (cond (ovM tv bl) (uI b1 19 1) b1))) = some (some (Value.int (-6)), enc (cond (ovM tv bl) (uI b1 19 1) b1))
        rw [if_neg]
        cases ovM tv bl with
        | true => rw [show cond true (uI b1 19 1) b1 = uI b1 19 1 from rfl, g3]; exact one
        | false => rw [show cond false (uI b1 19 1) b1 = b1 from rfl, h3]; exact one
    · cases ovM (R i) X0 with
      | true => cases ovM tv bl with
        | true => exact g2
        | false => exact g1
      | false => cases ovM tv bl with
        | true => exact g1
        | false => exact h2
  | false =>
    rw [h] at h3
    have h3 : gI b1 19 = 0 := h3
    have ex : tv = _ := h4 h
    subst ex
    rw [ov_bl hbl] at st0
    rw [Bool.false_or]
    generalize (tlN (fun j => Int64.ofInt (M i j)) X n).1 = T at *
    generalize ovM bl T = o1 at st0 ⊢
    generalize ovM (R i) X0 = o2 at st0 ⊢
    cases o1 with
    | true =>
      rw [Bool.true_or, if_pos rfl]
      cases o2 with
      | true =>
        refine ⟨uI (uI b1 19 1) 19 1, none, none, st0 _ ?_, g2⟩
        show RR (pv_X0 L xs) (d + 1) 211 181 _ _ (enc (uI (uI b1 19 1) 19 1)) = _
        rw [B211_181, g3, if_neg one]
      | false =>
        refine ⟨uI b1 19 1, none, none, st0 _ ?_, g1⟩
        show RR (pv_X0 L xs) (d + 1) 211 181 _ _ (enc (uI b1 19 1)) = _
        rw [B211_181, g3, if_neg one]
    | false =>
      rw [Bool.false_or]
      cases o2 with
      | true =>
        rw [if_pos rfl]
        refine ⟨uI b1 19 1, none, none, st0 _ ?_, g1⟩
        show RR (pv_X0 L xs) (d + 1) 211 181 _ _ (enc (uI b1 19 1)) = _
        rw [B211_181, g3, if_neg one]
      | false =>
        rw [if_neg Bool.false_ne_true]
        by_cases e : bl * T = R i * X0
        · rw [if_pos e]
          refine ⟨b1, some (.long (T * bl)), some (.long (R i * X0)), st0 _ ?_, h2⟩
          show RR (pv_X0 L xs) (d + 1) 211 181 [_, _, _, _, _, _, _, some (.long (T * bl)), _, _, _, _] [.long (R i * X0)] (enc b1) = _
          rw [B211_181, h3, if_pos (show cond false (1 : Int32) 0 = 0 from rfl), Int64.mul_comm T bl, if_pos (lg_eq.mpr e), jI_succ]
        · rw [if_neg e]
          refine ⟨b1, none, none, st0 _ ?_, h2⟩
          show RR (pv_X0 L xs) (d + 1) 211 181 [_, _, _, _, _, _, _, some (.long (T * bl)), _, _, _, _] [.long (R i * X0)] (enc b1) = _
          rw [B211_181, h3, if_pos (show cond false (1 : Int32) 0 = 0 from rfl), Int64.mul_comm T bl, if_neg (fun q => e (lg_eq.mp q))]
theorem M_jrows (hr : RM v a n bl mt M R) (hbl : bl = 1 ∨ bl = 2) (hn6 : n ≤ 6) (hn : gI v 15 = jI n) (hl : l < 4) (hB : B + n < 20) (hX : ∀ j, j < n → gB a 24 (20 * l + (B + 1 + j)) = X j) (hX0 : gB a 24 (20 * l + B) = X0) : ∃ b, RR (pv_X0 L xs) (d + 1) 211 63 [some (.ref 55), some (.int x), some (.int y), some (.int (jI l)), some (.int (jI B)), none, none, none, none, none, none, none] [] (enc a) = some (some (.int ((jAll bl M R X X0 n n).getD (-5))), enc b) ∧ ufr a b := by
  have em : (20 : Int32) * jI l + jI B = jI (20 * l + B) := by rw [show (20 : Int32) * jI l = jI (20 * l) from jI_mul (a := 20), jI_add]
  rcases pv_loopQ (R := fun k (t : Option Value × Option Value × pv_U) => RR (pv_X0 L xs) (d + 1) 211 75 [some (.ref 55), some (.int x), some (.int y), some (.int (jI l)), some (.int (jI B)), some (.int (jI (20 * l + B))), some (.int (jI k)), t.1, none, t.2.1, none, none] [] (enc t.2.2)) (P := fun k t => ufr a t.2.2 ∧ jAll bl M R X X0 n k = none) (Q := fun r => ∃ e b, r = some (some (.int e), enc b) ∧ ufr a b ∧ jAll bl M R X X0 n n = some e) (N := n) (fun k t hk ht => by
    obtain ⟨x7, x9, b⟩ := t
    obtain ⟨f, g⟩ := ht
    have f : ufr a b := f
    have eb : gB b 24 = gB a 24 := f.2.2.2 24 (by decide)
    obtain ⟨b', y7, y9, p1, p2⟩ := M_jrow (L := L) (xs := xs) (d := d) (B := B) (X := X) (X0 := X0) (x := x) (y := y) (x3 := jI l) (x4 := jI B) (RM_ufr hr f) hbl hn6 hn hl hk hB (fun j hj => by rw [eb]; exact hX j hj) (by rw [eb]; exact hX0) x7 x9
    have js : jAll bl M R X X0 n (k + 1) = jRow bl M R X X0 n k := by
      show (if jAll bl M R X X0 n k = none then jRow bl M R X X0 n k else jAll bl M R X X0 n k) = _
      rw [if_pos g]
    cases e : jRow bl M R X X0 n k with
    | some v =>
      rw [e] at p1
      exact Or.inl ⟨v, b', p1, ufr_trans f p2, jAll_mono (js.trans e) n (by omega)⟩
    | none =>
      rw [e] at p1
      exact Or.inr ⟨(y7, y9, b'), p1, ufr_trans f p2, js.trans e⟩) (a0 := (none, none, a)) ⟨ufr_refl, rfl⟩ with ⟨e, b, q1, q2, q3⟩ | ⟨⟨x7, x9, b⟩, h1, h2, h3⟩
  · refine ⟨b, ?_, q2⟩
    rw [B211_63, q3, em]
    exact q1
  · refine ⟨b, ?_, h2⟩
    rw [B211_63, h3, em]
    refine h1.trans ?_
    show RR (pv_X0 L xs) (d + 1) 211 75 _ _ _ = _
    rw [B211_75, (RM_ufr hr h2).1.1 15 (by decide), hn, if_pos jI_end]
    rfl
theorem P_judge (h : Inv u) : Both L xs 119 211 [some (.ref 0), some (.int x), some (.int y), some (.int z), some (.int w)] [some (.ref 55), some (.int x), some (.int y), some (.int z), some (.int w), none, none, none, none, none, none, none] u := by
  have h0 := h
  obtain ⟨n, N, h2n, hn6, h30, hn, hN, hn', hN'⟩ := rows_ctx h
  obtain ⟨⟨b1, b2, b3, b4, b5, b6, b7, b8, b9, b10⟩, ⟨g1, g2⟩, ⟨f1, f2⟩, ⟨t1, t2, t3⟩, ⟨p1, p2, p3⟩, hL, ⟨k1, k2, k3⟩⟩ := h
  by_cases q1 : asOk x y
  case neg =>
    refine ⟨.int (-1), u, u, ?_, ?_, h0, rfl⟩
    · simp only [B119_0, C_asked, C_list, B119_5, B119_12, reduceIte, e10, pv_bd_some, Option.toList_some, Option.toList_none, List.cons_append, List.nil_append, List.append_nil, ite01, if_neg q1]
    · simp only [B211_0, M_asked, M_list, B211_5, B211_12, reduceIte, e10, pv_bd_some, Option.toList_some, Option.toList_none, List.cons_append, List.nil_append, List.append_nil, ite01, ← b1, ← b3, z0, z1, z2, z3, z4, z5, z6, z7, z12, z20, z30, z99, y0, y1, y2, y3, y6, y7, y99, y15, if_neg q1]
  by_cases q2 : liOk z
  case neg =>
    refine ⟨.int (-1), u, u, ?_, ?_, h0, rfl⟩
    · simp only [B119_0, C_asked, C_list, B119_5, B119_12, reduceIte, e10, pv_bd_some, Option.toList_some, Option.toList_none, List.cons_append, List.nil_append, List.append_nil, ite01, if_pos q1, if_neg q2]
    · simp only [B211_0, M_asked, M_list, B211_5, B211_12, reduceIte, e10, pv_bd_some, Option.toList_some, Option.toList_none, List.cons_append, List.nil_append, List.append_nil, ite01, ← b1, ← b3, z0, z1, z2, z3, z4, z5, z6, z7, z12, z20, z30, z99, y0, y1, y2, y3, y6, y7, y99, y15, if_pos q1, if_neg q2]
  have ek : z = jI z.toInt.toNat := i32_nat q2.1
  have hl : z.toInt.toNat < 4 := by omega
  generalize z.toInt.toNat = l at *
  subst ek
  obtain ⟨l1, l2, l3⟩ := invL_at hL hl
  have ix : ∀ F : Nat → pv_R, pv_ix (jI l) 4 F = F l := fun F => pv_ixn hl (by decide)
  have sub : ∀ e : Nat, e ≤ 20 → (jI e - jI n).toInt = (e : Int) - n ∧ (jI e - jI n - 1).toInt = (e : Int) - n - 1 := fun e he => by
    have : (jI e - jI n).toInt = (e : Int) - n := by
      rw [Int32.toInt_sub, jI_toInt (by omega), jI_toInt (by omega)]
      exact Int.bmod_eq_of_le (by omega) (by omega)
    refine ⟨this, ?_⟩
    rw [Int32.toInt_sub, this]
    exact Int.bmod_eq_of_le (by have : (1 : Int32).toInt = 1 := rfl; omega) (by have : (1 : Int32).toInt = 1 := rfl; omega)
  by_cases q3 : 0 ≤ gA u 25 l
  case neg =>
    refine ⟨.int (-11), u, u, ?_, ?_, h0, rfl⟩
    · simp only [B119_0, C_asked, C_list, B119_5, B119_12, reduceIte, e10, pv_bd_some, Option.toList_some, Option.toList_none, List.cons_append, List.nil_append, List.append_nil, ite01, if_pos q1, if_pos q2, ix, if_neg q3]
    · simp only [B211_0, M_asked, M_list, B211_5, B211_12, reduceIte, e10, pv_bd_some, Option.toList_some, Option.toList_none, List.cons_append, List.nil_append, List.append_nil, ite01, if_pos q1, if_pos q2, ix, ← l1, if_neg q3]
  have eE : gA u 25 l = jI (gA u 25 l).toInt.toNat := i32_nat (by rw [Int32.le_iff_toInt_le] at q3; exact q3)
  have hE : (gA u 25 l).toInt.toNat ≤ 20 := by omega
  generalize hEE : (gA u 25 l).toInt.toNat = E at *
  obtain ⟨s1, s2⟩ := sub E hE
  by_cases q4 : w < 0
  case pos =>
    refine ⟨.int (-13), u, u, ?_, ?_, h0, rfl⟩
    · simp only [B119_0, C_asked, C_list, B119_5, B119_12, reduceIte, e10, pv_bd_some, Option.toList_some, Option.toList_none, List.cons_append, List.nil_append, List.append_nil, ite01, if_pos q1, if_pos q2, ix, if_pos q3, if_pos q4]
    · simp only [B211_0, M_asked, M_list, B211_5, B211_12, reduceIte, e10, pv_bd_some, Option.toList_some, Option.toList_none, List.cons_append, List.nil_append, List.append_nil, ite01, if_pos q1, if_pos q2, ix, ← l1, if_pos q3, if_pos q4]
  by_cases q5 : w.toInt < (E : Int) - n
  case neg =>
    refine ⟨.int (-13), u, u, ?_, ?_, h0, rfl⟩
    · simp only [B119_0, C_asked, C_list, B119_5, B119_12, reduceIte, e10, pv_bd_some, Option.toList_some, Option.toList_none, List.cons_append, List.nil_append, List.append_nil, ite01, if_pos q1, if_pos q2, ix, if_pos q3, if_neg q4]
      rw [eE, hn, if_neg (fun e => q5 (by rw [Int32.lt_iff_toInt_lt, s1] at e; exact e))]
    · simp only [B211_0, M_asked, M_list, B211_5, B211_12, reduceIte, e10, pv_bd_some, Option.toList_some, Option.toList_none, List.cons_append, List.nil_append, List.append_nil, ite01, if_pos q1, if_pos q2, ix, ← l1, if_pos q3, if_neg q4]
      rw [eE, hn', if_neg (fun e => q5 (by rw [Int32.le_iff_toInt_le, s2] at e; omega))]
  have w0 : 0 ≤ w.toInt := by
    rw [Int32.lt_iff_toInt_lt] at q4
    exact Int.not_lt.mp q4
  have eB : w = jI w.toInt.toNat := i32_nat w0
  have hB : w.toInt.toNat + n < E := by omega
  have q5c : w < jI E - jI n := by rw [Int32.lt_iff_toInt_lt, s1]; exact q5
  have q5m : w ≤ jI E - jI n - 1 := by rw [Int32.le_iff_toInt_le, s2]; omega
  generalize w.toInt.toNat = B at *
  have hv : ∀ k, k < E → gB u (13 + l) k = gB u 24 (20 * l + k) := fun k hk => l3 k (by rw [eE, jI_toInt (by omega)]; omega)
  obtain ⟨c1, hc1, rc1⟩ := C_asOf (L := L) (xs := xs) (d := 94) (m := x) (day := y) h0 h2n hn6 h30 hn hN
  obtain ⟨c1', hd1, md1⟩ := C_jrows (L := L) (xs := xs) (d := 97) (B := B) (X := fun j => gB u 24 (20 * l + (B + 1 + j))) (X0 := gB u 24 (20 * l + B)) rc1 hn6 hl (by omega) (fun j hj => by rw [rc1.1.2.2.2 (13 + l) (by omega)]; exact hv _ (by omega)) (by rw [rc1.1.2.2.2 (13 + l) (by omega)]; exact hv _ (by omega))
  have sc1 := (RC_tfr rc1 hn6 md1).1
  obtain ⟨c2, hc2, rc2⟩ := M_asOf (L := L) (xs := xs) (d := 96) (m := x) (day := y) h0 sc1 h2n hn6 h30 hn hN hn' hN'
  have hbl : blT x = 1 ∨ blT x = 2 := by
    unfold blT
    split
    · exact Or.inr rfl
    · exact Or.inl rfl
  have e24 : gB c2 24 = gB u 24 := (scr_trans sc1 rc2.1).2.2.2 24 (by omega)
  obtain ⟨c2', hd2, md2⟩ := M_jrows (L := L) (xs := xs) (d := 98) (B := B) (X := fun j => gB u 24 (20 * l + (B + 1 + j))) (X0 := gB u 24 (20 * l + B)) (x := x) (y := y) rc2 hbl hn6 ((sc1.1 15 (by decide)).trans hn') hl (by omega) (fun j hj => by rw [e24]) (by rw [e24])
  have e35 : gA c1' 35 = gA u 35 := sc1.2.2.1 35 (by omega)
  have e15 : gI c1' 15 = gI u 15 := sc1.1 15 (by decide)
  refine ⟨.int ((jAll (blT x) (MI (decide (x = 1)) n (mT u (cW u N y (-1) false)) (pT u (cW u N y (-1) false))) (RV (decide (x = 1)) n (rT u x (cW u N y (-1) false))) (fun j => gB u 24 (20 * l + (B + 1 + j))) (gB u 24 (20 * l + B)) n n).getD (-5)), c1', c2', ?_, ?_, Inv_scr h0 (scr_trans sc1 (RM_ufr rc2 md2).1), rfl⟩
  · simp only [B119_0, C_asked, C_list, B119_5, B119_12, reduceIte, e10, pv_bd_some, Option.toList_some, Option.toList_none, List.cons_append, List.nil_append, List.append_nil, ite01, if_pos q1, if_pos q2, ix, if_pos q3, if_neg q4]
    rw [eE, hn, if_pos q5c, hc1, pv_bd_some]
    simp only [Option.toList_none, List.nil_append]
    rw [B119_68, eB]
    have e80 : RR (pv_X0 L xs) (98 + 1) 119 80 [some (.ref 0), some (.int x), some (.int y), some (.int (jI l)), some (.int (jI B))] [.int (jI l), .ref 49, .ref 22] (enc c1) = _ := B119_80 (r49 := l) hl
    refine e80.trans ?_
    rw [hd1, pv_bd_some]
    exact B119_86
  · simp only [B211_0, M_asked, M_list, B211_5, B211_12, reduceIte, e10, pv_bd_some, Option.toList_some, Option.toList_none, List.cons_append, List.nil_append, List.append_nil, ite01, if_pos q1, if_pos q2, ix, e35, e15, ← l1, if_pos q3, if_neg q4]
    rw [eE, hn', if_pos q5m, hc2, pv_bd_some]
    simp only [Option.toList_none, List.nil_append]
    rw [eB]
    exact hd2
end JUDGE2
