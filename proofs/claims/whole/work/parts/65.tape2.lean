/-! reading THE TAPE: the reference's small readers; a team, a weight, on both sides (printed by wip/whole/ops/pp.py) -/
def hr (T : Nat → Int32) (n a : Nat) : Int32 := if a < n then T a else -1
section TAPE2
variable {L : Nat} {xs : Nat → Int32} {u : pv_U} {d k n p : Nat} {x y z c : Int32} {T : Nat → Int32} {s t : pS}
theorem hr_eq (ht : tpe u 33 20 T n) {a : Nat} (h0 : c ≠ 0) (h1 : c ≠ -1) : hr T n a = c ↔ T a = c := by
  unfold hr
  by_cases q : a < n
  · rw [if_pos q]
  · rw [if_neg q, ht.2.2.2 a (by omega)]
    exact ⟨fun e => absurd e.symm h1, fun e => absurd e.symm h0⟩
theorem hr_fg (ht : tpe u 33 20 T n) {a : Nat} : (48 ≤ (hr T n a).toInt ∧ (hr T n a).toInt ≤ 57) ↔ fgB T a = true := by
  unfold hr fgB
  rw [decide_eq_true_eq]
  by_cases q : a < n
  · rw [if_pos q]
  · rw [if_neg q, ht.2.2.2 a (by omega), show (-1 : Int32).toInt = -1 from rfl, z0]
    omega
theorem adv_tM : uI (tM u s) 21 (gI (tM u s) 21 + 1) = tM u (adv s) := by
  have e21 : gI (tM u s) 21 = jI s.1 := by rw [gI_tM, if_neg (by decide), if_pos rfl]
  rw [e21, jI_succ]
  refine pv_ext (fun j => ?_) (fun _ => rfl) (fun _ _ => rfl) (fun _ _ => rfl)
  rw [gI_uI, gI_tM, gI_tM]
  show _ = if j = 22 then fI s.2 else if j = 21 then jI (s.1 + 1) else gI u j
  grind
theorem fl_tM : uI (tM u s) 22 (jI p) = tM u (s.1, some p) := by
  refine pv_ext (fun j => ?_) (fun _ => rfl) (fun _ _ => rfl) (fun _ _ => rfl)
  rw [gI_uI, gI_tM, gI_tM]
  show _ = if j = 22 then jI p else if j = 21 then jI s.1 else gI u j
  grind
theorem no_tM : uI (tM u s) 22 (gI (tM u s) 22) = tM u s := by
  refine pv_ext (fun j => ?_) (fun _ => rfl) (fun _ _ => rfl) (fun _ _ => rfl)
  rw [gI_uI]
  grind
theorem M_here (ht : tpe u 33 20 T n) (h : wfS n s) : RR (pv_X0 L xs) d 189 0 [some (.ref 55)] [] (enc (tM u s)) = some (some (.int (hr T n s.1)), enc (tM u s)) := by
  obtain ⟨h1, h3, h4, h5⟩ := ht
  have hs := h.1
  rw [B189_0]
  unfold hr
  simp only [gI_tM, Nat.reduceEqDiff, reduceIte, h3, gA_tM]
  by_cases q : n ≤ s.1
  · rw [if_pos (by rw [jI_le (by omega) (by omega)]; exact q), if_neg (by omega)]
  · rw [if_neg (by rw [jI_le (by omega) (by omega)]; exact q), pv_ixn (by omega) (by decide), (h4 _ (by omega)).1, if_pos (by omega)]
theorem M_fails (h : wfS n s) (hn : n ≤ 120) : RR (pv_X0 L xs) d 187 0 [some (.ref 55), some (.int (jI p))] [] (enc (tM u s)) = some (none, enc (tM u (fl s p))) := by
  have e : gI (tM u s) 22 = fI s.2 := by rw [gI_tM, if_pos rfl]
  rw [B187_0, no_tM, e]
  by_cases q : s.2 = none
  · rw [if_neg (by rw [fI_neg h hn]; exact fun r => r q), fl_tM, fl_none q]
  · rw [if_pos (by rw [fI_neg h hn]; exact q), fl_fl q]
theorem M_sign (ht : tpe u 33 20 T n) (h0 : c ≠ 0) (h1 : c ≠ -1) (h : wfS n s) : RR (pv_X0 L xs) (d + 1) 190 0 [some (.ref 55), some (.int c)] [] (enc (tM u s)) = some (none, enc (tM u (nd T c s))) := by
  have e : gI (tM u s) 22 = fI s.2 := by rw [gI_tM, if_pos rfl]
  have e2 : gI (tM u s) 21 = jI s.1 := by rw [gI_tM, if_neg (by decide), if_pos rfl]
  rw [B190_0, e, e2]
  unfold nd skB
  by_cases q : s.2 = none
  · rw [if_neg (by rw [fI_neg h ht.1]; exact fun r => r q), M_here ht h, pv_bd_some]
    simp only [Option.toList_some, List.cons_append, List.nil_append]
    rw [B190_11]
    by_cases q2 : T s.1 = c
    · rw [if_pos ((hr_eq ht h0 h1).mpr q2), adv_tM]
      simp only [q, q2, decide_true, Bool.and_self, reduceIte]
      exact B190_36
    · rw [if_neg (fun r => q2 ((hr_eq ht h0 h1).mp r)), e2, M_fails h ht.1, pv_bd_some]
      simp only [q, q2, decide_true, decide_false, Bool.and_false, Bool.false_eq_true, reduceIte]
      exact B190_36
  · rw [if_pos (by rw [fI_neg h ht.1]; exact q), M_fails h ht.1, pv_bd_some]
    simp only [q, decide_false, Bool.false_and, Bool.false_eq_true, reduceIte]
    exact B190_36
theorem jI_sub {a b : Nat} (h : b ≤ a) : jI a - jI b = jI (a - b) := by
  have e : jI a = jI (a - b) + jI b := by rw [jI_add, show a - b + b = a by omega]
  rw [e]
  grind
/-- what stands behind the figures -/
theorem M_numE (ht : tpe u 33 20 T n) (hp : p ≤ n) {v : Int32} {a : Nat} (hpa : p ≤ a) (ha : a ≤ n) {K : Nat} : (if jI a = jI p then (pv_bd (RR (pv_X0 L xs) d 187 0 [some (.ref 55), some (.int (jI p))] [] (enc (tM u (a, none)))) fun v' w => RR (pv_X0 L xs) (d + 1) 188 102 [some (.ref 55), some (.int (jI K)), some (.int x), some (.int y), some (.int (jI p)), some (.int v)] (v'.toList ++ []) w) else (pv_bd (RR (pv_X0 L xs) d 126 0 [some (.long v.toInt64), none, some (.long x.toInt64), none, some (.long y.toInt64), none] [] (enc (tM u (a, none)))) fun v' w => RR (pv_X0 L xs) (d + 1) 188 93 [some (.ref 55), some (.int (jI K)), some (.int x), some (.int y), some (.int (jI p)), some (.int v)] (v'.toList ++ []) w)) = some (some (.int v), enc (tM u (if a = p ∨ ¬ (x.toInt ≤ v.toInt ∧ v.toInt ≤ y.toInt) then (a, some p) else (a, none)))) := by
  have hn := ht.1
  have hw : wfS n (a, none) := ⟨ha, fun p e => nomatch e⟩
  by_cases q : a = p
  · subst q
    rw [if_pos rfl, M_fails hw hn, pv_bd_some, if_pos (Or.inl rfl)]
    exact B188_102
  · rw [if_neg (by rw [jI_eq (by omega) (by omega)]; exact q), M_isInI, pv_bd_some]
    simp only [Option.toList_some, List.cons_append, List.nil_append, Int32.toInt_toInt64]
    rw [B188_93, ite01]
    by_cases q2 : x.toInt ≤ v.toInt ∧ v.toInt ≤ y.toInt
    · rw [if_pos q2, if_neg (fun r => r.elim q (fun r => r q2)), B188_102]
    · rw [if_neg q2, if_pos (Or.inr q2), M_fails hw hn, pv_bd_some]
      exact B188_102
theorem M_numL (ht : tpe u 33 20 T n) {K m : Nat} (hK : K ≤ 4) {v : Int32} {a : Nat} (hpa : p ≤ a) (hj : a - p + m = K) (ha : a ≤ n) : RR (pv_X0 L xs) (d + 1) 188 18 [some (.ref 55), some (.int (jI K)), some (.int x), some (.int y), some (.int (jI p)), some (.int v)] [] (enc (tM u (a, none))) = some (some (.int (nmL T m v a).1), enc (tM u (if (nmL T m v a).2 = p ∨ ¬ (x.toInt ≤ (nmL T m v a).1.toInt ∧ (nmL T m v a).1.toInt ≤ y.toInt) then ((nmL T m v a).2, some p) else ((nmL T m v a).2, none)))) := by
  have hn := ht.1
  induction m generalizing v a with
  | zero =>
    have e2 : gI (tM u (a, none)) 21 = jI a := by rw [gI_tM, if_neg (by decide), if_pos rfl]
    rw [B188_18, e2, jI_sub hpa, if_pos (by rw [jI_le (by omega) (by omega)]; omega)]
    exact M_numE ht (by omega) hpa ha
  | succ m ih =>
    have hw : wfS n (a, none) := ⟨ha, fun p e => nomatch e⟩
    have e2 : gI (tM u (a, none)) 21 = jI a := by rw [gI_tM, if_neg (by decide), if_pos rfl]
    rw [B188_18, e2, jI_sub hpa, if_neg (by rw [jI_le (by omega) (by omega)]; omega), M_here ht hw, pv_bd_some]
    simp only [Option.toList_some, List.cons_append, List.nil_append]
    rw [B188_33, M_isInI, pv_bd_some]
    simp only [Option.toList_some, List.cons_append, List.nil_append, show (48 : Int64).toInt = 48 from rfl, show (57 : Int64).toInt = 57 from rfl]
    rw [B188_43, ite01, e2]
    have es : nmL T (m + 1) v a = if fgB T a = true then nmL T m (v * 10 + T a - 48) (a + 1) else (v, a) := rfl
    rw [es]
    by_cases q : fgB T a = true
    · have han := T_fg ht q
      rw [if_pos ((hr_fg ht).mpr q), if_pos q, M_here ht hw, pv_bd_some]
      simp only [Option.toList_some, List.cons_append, List.nil_append]
      rw [B188_55, adv_tM]
      have e3 : hr T n (a, (none : Option Nat)).1 = T a := if_pos han
      rw [e3, Int32.mul_comm 10 v]
      exact ih (by omega) (by omega) han
    · rw [if_neg (fun r => q ((hr_fg ht).mp r)), if_neg q]
      exact M_numE ht (by omega) hpa ha
theorem nmL_gt (ht : tpe u 33 20 T n) {m : Nat} {v : Int32} {a : Nat} (ha : a ≤ n) (q : fgB T a = true) (hm : 0 < m) : a < (nmL T m v a).2 := by
  cases m with
  | zero => omega
  | succ m =>
    show a < (if fgB T a = true then nmL T m (v * 10 + T a - 48) (a + 1) else (v, a)).2
    rw [if_pos q]
    have := (nmL_le ht (m := m) (v := v * 10 + T a - 48) (a := a + 1) (T_fg ht q)).2
    omega
theorem M_number (ht : tpe u 33 20 T n) (h : wfS n s) (hk : k ≤ 4) (hk1 : 0 < k) : RR (pv_X0 L xs) (d + 1) 188 0 [some (.ref 55), some (.int (jI k)), some (.int x), some (.int y), none, none] [] (enc (tM u s)) = some (some (.int (if s.2 = none then (nmR T k x y s).1 else 0)), enc (tM u (nmR T k x y s).2)) := by
  have e : gI (tM u s) 22 = fI s.2 := by rw [gI_tM, if_pos rfl]
  have e2 : gI (tM u s) 21 = jI s.1 := by rw [gI_tM, if_neg (by decide), if_pos rfl]
  rw [B188_0, e, e2]
  by_cases q : s.2 = none
  · rw [if_pos (by rw [fI_lt h ht.1]; exact q), if_pos q]
    have es : s = (s.1, none) := by rw [← q]
    have h2 := M_numL (L := L) (xs := xs) (d := d) (x := x) (y := y) (p := s.1) ht (K := k) (m := k) hk (v := 0) (a := s.1) (Nat.le_refl _) (by omega) h.1
    rw [← es] at h2
    refine h2.trans ?_
    unfold nmR nmC
    by_cases q2 : fgB T s.1 = true
    · have := nmL_gt ht (v := 0) h.1 q2 hk1
      simp only [if_pos (show s.2 = none ∧ fgB T s.1 = true from ⟨q, q2⟩)]
      by_cases q3 : x.toInt ≤ (nmL T k 0 s.1).1.toInt ∧ (nmL T k 0 s.1).1.toInt ≤ y.toInt
      · rw [if_neg (fun r => r.elim (by omega) (fun r => r q3)), if_pos q3]
      · rw [if_pos (Or.inr q3), if_neg q3]
        rfl
    · have e3 : nmL T k 0 s.1 = (0, s.1) := by
        cases k with
        | zero => rfl
        | succ m =>
          show (if fgB T s.1 = true then nmL T m (0 * 10 + T s.1 - 48) (s.1 + 1) else (0, s.1)) = (0, s.1)
          rw [if_neg q2]
      simp only [if_neg (show ¬ (s.2 = none ∧ fgB T s.1 = true) from fun r => q2 r.2), e3, true_or, reduceIte]
      rw [fl_idem, ite_self, fl_none q]
  · rw [if_neg (by rw [fI_lt h ht.1]; exact q), if_neg q]
    unfold nmR nmC
    simp only [if_neg (show ¬ (s.2 = none ∧ fgB T s.1 = true) from fun r => q r.1)]
    rw [fl_idem, ite_self, fl_fl q]
theorem nmR_fst : (if s.2 = none then (nmR T k x y s).1 else 0) = (nmR T k x y s).1 := by
  by_cases q : s.2 = none
  · rw [if_pos q]
  · rw [if_neg q]
    unfold nmR nmC
    rw [if_neg (show ¬ (s.2 = none ∧ fgB T s.1 = true) from fun r => q r.1)]
end TAPE2
