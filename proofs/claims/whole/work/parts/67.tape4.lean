/-! a GAME read from THE TAPE by the reference; results (printed by wip/whole/ops/pp.py) -/
/-- one GAME behind another -/
def rsF (T : Nat → Int32) (nT : Int32) (N : Nat) : Nat → Nat → pS → pG → Nat × pS × pG
  | 0, k, s, G => (k, s, G)
  | m + 1, k, s, G => if skB T 59 (rdG T nT (N + k) s G).2 = true then rsF T nT N m (k + 1) (adv (rdG T nT (N + k) s G).2) (rdG T nT (N + k) s G).1 else (k + 1, (rdG T nT (N + k) s G).2, (rdG T nT (N + k) s G).1)
def sE (n : Nat) (s : pS) : pS := if s.1 < n then fl s s.1 else s
section TAPE4
variable {L : Nat} {xs : Nat → Int32} {u : pv_U} {d k n p r i N : Nat} {x y z c nT : Int32} {T : Nat → Int32} {s t : pS} {G : pG}
theorem i24_tM {v w : Int32} : uI (tM (uI u 24 v) s) 24 w = tM (uI u 24 w) s := by
  refine pv_ext (fun j => ?_) (fun _ => rfl) (fun _ _ => rfl) (fun _ _ => rfl)
  simp only [gI_uI, gI_tM]
  grind
theorem tpe_sRM (ht : tpe u 33 20 T n) : tpe (uI (sRM u G) 24 x) 33 20 T n := by
  obtain ⟨h1, h2, h3, h4⟩ := ht
  refine ⟨h1, ?_, ?_, h4⟩
  · rw [gI_uI, if_neg (by decide)]
    exact h2
  · exact h3
theorem nd_none (h : (nd T c s).2 = none) : s.2 = none := by
  unfold nd skB at h
  by_cases q : s.2 = none
  · exact q
  · simp only [q, decide_false, Bool.false_and, Bool.false_eq_true, reduceIte] at h
    rw [fl_fl q] at h
    exact absurd h q
theorem fl_some : ¬ (fl s p).2 = none := by
  obtain ⟨a, o⟩ := s
  cases o <;> exact nofun
theorem nmC_none (h : (nmC T k s).2.2 = none) : s.2 = none := by
  unfold nmC at h
  by_cases q : s.2 = none ∧ fgB T s.1 = true
  · exact q.1
  · rw [if_neg q] at h
    exact absurd h fl_some
theorem nmR_none (h : (nmR T k x y s).2.2 = none) : s.2 = none ∧ x.toInt ≤ (nmR T k x y s).1.toInt ∧ (nmR T k x y s).1.toInt ≤ y.toInt := by
  unfold nmR at h ⊢
  have h' : (if x.toInt ≤ (nmC T k s).1.toInt ∧ (nmC T k s).1.toInt ≤ y.toInt then (nmC T k s).2 else fl (nmC T k s).2 s.1).2 = none := h
  by_cases q : x.toInt ≤ (nmC T k s).1.toInt ∧ (nmC T k s).1.toInt ≤ y.toInt
  · rw [if_pos q] at h'
    exact ⟨nmC_none h', q⟩
  · rw [if_neg q] at h'
    exact absurd h' fl_some
theorem teamR_none (h : (teamR T nT x s).2.2 = none) : s.2 = none ∧ tmOk nT (teamR T nT x s).1 ∧ (teamR T nT x s).1 ≠ x := by
  unfold teamR at h ⊢
  have h' : (if tmOk nT (nmC T 1 s).1 ∧ (nmC T 1 s).1 ≠ x then (nmC T 1 s).2 else fl (nmC T 1 s).2 s.1).2 = none := h
  by_cases q : tmOk nT (nmC T 1 s).1 ∧ (nmC T 1 s).1 ≠ x
  · rw [if_pos q] at h'
    exact ⟨nmC_none h', q⟩
  · rw [if_neg q] at h'
    exact absurd h' fl_some
/-- a number's value -/
theorem nmL_val {m : Nat} {v : Int32} {a : Nat} {B : Nat} (h0 : 0 ≤ v.toInt) (h1 : v.toInt < B) (hB : B * 10 ^ m ≤ 1000000) : 0 ≤ (nmL T m v a).1.toInt ∧ (nmL T m v a).1.toInt < ((B * 10 ^ m : Nat) : Int) := by
  induction m generalizing v a B with
  | zero =>
    show 0 ≤ v.toInt ∧ v.toInt < ((B * 1 : Nat) : Int)
    omega
  | succ m ih =>
    have e : B * 10 ^ (m + 1) = (B * 10) * 10 ^ m := by rw [Nat.pow_succ, Nat.mul_comm (10 ^ m) 10, Nat.mul_assoc]
    have hp : 0 < 10 ^ m := Nat.one_le_pow m 10 (by decide)
    have hB1 : B * 10 ≤ 1000000 := Nat.le_trans (Nat.le_mul_of_pos_right _ hp) (e ▸ hB)
    rw [e] at hB ⊢
    show 0 ≤ (if fgB T a = true then nmL T m (v * 10 + T a - 48) (a + 1) else (v, a)).1.toInt ∧ (if fgB T a = true then nmL T m (v * 10 + T a - 48) (a + 1) else (v, a)).1.toInt < (((B * 10) * 10 ^ m : Nat) : Int)
    by_cases q : fgB T a = true
    · rw [if_pos q]
      unfold fgB at q
      rw [decide_eq_true_eq] at q
      have ev : (v * 10 + T a - 48).toInt = v.toInt * 10 + (T a).toInt - 48 := by
        rw [Int32.toInt_sub, Int32.toInt_add, Int32.toInt_mul, show (10 : Int32).toInt = 10 from rfl, show (48 : Int32).toInt = 48 from rfl]
        rw [Int.bmod_eq_of_le (n := v.toInt * 10) (by omega) (by omega)]
        rw [Int.bmod_eq_of_le (n := v.toInt * 10 + (T a).toInt) (by omega) (by omega)]
        rw [Int.bmod_eq_of_le (by omega) (by omega)]
      exact ih (by omega) (by omega) hB
    · rw [if_neg q]
      have : B ≤ B * 10 * 10 ^ m := Nat.le_trans (by omega) (Nat.le_mul_of_pos_right _ hp)
      show 0 ≤ v.toInt ∧ v.toInt < _
      omega
theorem nmC_val (hk : k ≤ 4) : 0 ≤ (nmC T k s).1.toInt ∧ (nmC T k s).1.toInt < ((10 ^ k : Nat) : Int) := by
  have hp : 10 ^ k ≤ 10 ^ 4 := Nat.pow_le_pow_right (by decide) hk
  unfold nmC
  by_cases q : s.2 = none ∧ fgB T s.1 = true
  · rw [if_pos q]
    have := nmL_val (T := T) (m := k) (v := 0) (a := s.1) (B := 1) (by decide) (by decide) (by omega)
    rw [Nat.one_mul] at this
    exact this
  · rw [if_neg q]
    have : 0 < 10 ^ k := Nat.one_le_pow k 10 (by decide)
    show 0 ≤ (0 : Int32).toInt ∧ (0 : Int32).toInt < _
    rw [z0]
    omega
theorem nmR_all (hk : k ≤ 4) (hx : x.toInt ≤ 0) (hy : ((10 ^ k : Nat) : Int) ≤ y.toInt + 1) : nmR T k x y s = nmC T k s := by
  have := nmC_val (T := T) (s := s) hk
  unfold nmR
  rw [if_pos (by omega)]
/-- a GAME that was read is as it may stand -/
theorem rdG_ok (h : (q6 T nT s).2.2 = none) (h6 : nT.toInt ≤ 6) : okG nT (q1 T nT s).1 (q2 T nT s).1 (q3 T nT s).1.toInt64 (q4 T nT s).1.toInt64 (q5 T nT s).1 (q6 T nT s).1 0 := by
  have h5 : (q5 T nT s).2.2 = none ∧ wtOk (q6 T nT s).1 := by
    unfold q6 at h ⊢
    by_cases q : skB T 120 (q5 T nT s).2 = true
    · rw [if_pos q] at h ⊢
      have := nmR_none h
      exact ⟨this.1, this.2⟩
    · rw [if_neg q] at h ⊢
      exact ⟨h, (by decide : (1 : Int) ≤ (1 : Int32).toInt), (by decide : (1 : Int32).toInt ≤ (3 : Int))⟩
  have h4 := nd_none (nmC_none h5.1)
  have h3 := nd_none (nmC_none h4)
  have h2 := nd_none (nmC_none h3)
  have r2 := teamR_none h2
  have r1 := teamR_none (nd_none r2.1)
  have v3 := nmC_val (T := T) (k := 4) (s := nd T 58 (q2 T nT s).2) (by decide)
  have v4 := nmC_val (T := T) (k := 4) (s := nd T 45 (q3 T nT s).2) (by decide)
  have v5 := nmC_val (T := T) (k := 2) (s := nd T 64 (q4 T nT s).2) (by decide)
  refine ⟨r1.2.1.1, r1.2.1.2, r2.2.1.1, r2.2.1.2, fun e => r2.2.2 e.symm, ⟨?_, ?_⟩, ⟨?_, ?_⟩, ⟨v5.1, ?_⟩, h5.2, by decide, by decide⟩
  · rw [Int32.toInt_toInt64]; exact v3.1
  · rw [Int32.toInt_toInt64]
    have : (q3 T nT s).1.toInt < 10000 := v3.2
    omega
  · rw [Int32.toInt_toInt64]; exact v4.1
  · rw [Int32.toInt_toInt64]
    have : (q4 T nT s).1.toInt < 10000 := v4.2
    omega
  · have : (q5 T nT s).1.toInt < 100 := v5.2
    omega
/-! the reference -/
theorem M_readTeam (ht : tpe u 33 20 T n) (h : wfS n s) (h15 : 0 ≤ (gI u 15).toInt) : RR (pv_X0 L xs) (d + 1) 188 0 [some (.ref 55), some (.int 1), some (.int 0), some (.int (gI u 15 - 1)), none, none] [] (enc (tM u s)) = some (some (.int (teamR T (gI u 15) (-1) s).1), enc (tM u (teamR T (gI u 15) (-1) s).2)) := by
  have e := M_number (L := L) (xs := xs) (d := d) (x := 0) (y := gI u 15 - 1) (k := 1) ht h (by decide) (by decide)
  have e1 : RR (pv_X0 L xs) (d + 1) 188 0 [some (.ref 55), some (.int 1), some (.int 0), some (.int (gI u 15 - 1)), none, none] [] (enc (tM u s)) = some (some (.int (nmR T 1 0 (gI u 15 - 1) s).1), enc (tM u (nmR T 1 0 (gI u 15 - 1) s).2)) := by
    rw [← nmR_fst]
    exact e
  rw [e1]
  have v := nmC_val (T := T) (k := 1) (s := s) (by decide)
  have z1m : (-1 : Int32).toInt = -1 := rfl
  have hs := sub1 h15
  unfold nmR teamR
  by_cases q : tmOk (gI u 15) (nmC T 1 s).1
  · rw [if_pos (by rw [hs, z0]; omega), if_pos ⟨q, fun e => by rw [e, z1m] at v; omega⟩]
  · rw [if_neg (by rw [hs, z0]; omega), if_neg (fun r => q r.1)]
theorem teamR_o {o : Int32} (h : 0 ≤ nT.toInt) : teamR T nT o s = ((teamR T nT (-1) s).1, if (teamR T nT (-1) s).2.2 = none ∧ (teamR T nT (-1) s).1 = o then fl (teamR T nT (-1) s).2 s.1 else (teamR T nT (-1) s).2) := by
  have v := nmC_val (T := T) (k := 1) (s := s) (by decide)
  have z1m : (-1 : Int32).toInt = -1 := rfl
  have hm : (nmC T 1 s).1 ≠ -1 := fun e => by rw [e, z1m] at v; omega
  unfold teamR
  by_cases q : tmOk nT (nmC T 1 s).1
  · simp only [if_pos (show tmOk nT (nmC T 1 s).1 ∧ (nmC T 1 s).1 ≠ -1 from ⟨q, hm⟩)]
    by_cases q2 : (nmC T 1 s).1 = o
    · rw [if_neg (fun r => r.2 q2)]
      by_cases q3 : (nmC T 1 s).2.2 = none
      · rw [if_pos ⟨q3, q2⟩]
      · rw [if_neg (fun r => q3 r.1), fl_fl q3]
    · rw [if_pos ⟨q, q2⟩, if_neg (fun r => q2 r.2)]
  · simp only [if_neg (show ¬ (tmOk nT (nmC T 1 s).1 ∧ (nmC T 1 s).1 ≠ -1) from fun r => q r.1)]
    rw [if_neg (fun r => q r.1), if_neg (fun r => fl_some r.1)]
theorem M_readGame (ht : tpe u 33 20 T n) (h : wfS n s) (h15 : 0 ≤ (gI u 15).toInt) (hk : k ≤ 30) : RR (pv_X0 L xs) (d + 3) 186 0 [some (.ref 55), none, none, none, none, none, none, none] [] (enc (tM (uI (sRM u G) 24 (jI k)) s)) = some (none, enc (tM (uI (sRM u (rdG T (gI u 15) k s G).1) 24 (jI (if (rdG T (gI u 15) k s G).2.2 = none then k + 1 else k))) (rdG T (gI u 15) k s G).2)) := by
  have hn := ht.1
  have ht' : tpe (uI (sRM u G) 24 (jI k)) 33 20 T n := tpe_sRM ht
  have e24 : ∀ (G : pG) (s : pS), gI (tM (uI (sRM u G) 24 (jI k)) s) 24 = jI k := fun G s => by rw [gI_tM, if_neg (by decide), if_neg (by decide), gI_uI, if_pos rfl]
  have e21 : ∀ (G : pG) (s : pS), gI (tM (uI (sRM u G) 24 (jI k)) s) 21 = jI s.1 := fun G s => by rw [gI_tM, if_neg (by decide), if_pos rfl]
  have e22 : ∀ (G : pG) (s : pS), gI (tM (uI (sRM u G) 24 (jI k)) s) 22 = fI s.2 := fun G s => by rw [gI_tM, if_pos rfl]
  have e15 : ∀ (G : pG) (s : pS), gI (tM (uI (sRM u G) 24 (jI k)) s) 15 = gI u 15 := fun G s => by rw [gI_tM, if_neg (by decide), if_neg (by decide), gI_uI, if_neg (by decide)]; rfl
  have f15 : ∀ (G : pG), gI (uI (sRM u G) 24 (jI k)) 15 = gI u 15 := fun G => by rw [gI_uI, if_neg (by decide)]; rfl
  have mt : ∀ (d : Nat) (s : pS), wfS n s → RR (pv_X0 L xs) (d + 1) 188 0 [some (.ref 55), some (.int 1), some (.int 0), some (.int (gI u 15 - 1)), none, none] [] (enc (tM (uI (sRM u G) 24 (jI k)) s)) = some (some (.int (teamR T (gI u 15) (-1) s).1), enc (tM (uI (sRM u G) 24 (jI k)) (teamR T (gI u 15) (-1) s).2)) := fun d s hs => by
    have := M_readTeam (L := L) (xs := xs) (d := d) ht' hs (by rw [f15]; exact h15)
    rw [f15] at this
    exact this
  have mn : ∀ (d : Nat) (s : pS), wfS n s → RR (pv_X0 L xs) (d + 1) 188 0 [some (.ref 55), some (.int 4), some (.int 0), some (.int 9999), none, none] [] (enc (tM (uI (sRM u G) 24 (jI k)) s)) = some (some (.int (nmC T 4 s).1), enc (tM (uI (sRM u G) 24 (jI k)) (nmC T 4 s).2)) := fun d s hs => by
    have e := M_number (L := L) (xs := xs) (d := d) (x := 0) (y := 9999) (k := 4) ht' hs (by decide) (by decide)
    rw [nmR_fst, nmR_all (by decide) (by decide) (by decide)] at e
    exact e
  have md : ∀ (d : Nat) (s : pS), wfS n s → RR (pv_X0 L xs) (d + 1) 188 0 [some (.ref 55), some (.int 2), some (.int 0), some (.int 99), none, none] [] (enc (tM (uI (sRM u G) 24 (jI k)) s)) = some (some (.int (nmC T 2 s).1), enc (tM (uI (sRM u G) 24 (jI k)) (nmC T 2 s).2)) := fun d s hs => by
    have e := M_number (L := L) (xs := xs) (d := d) (x := 0) (y := 99) (k := 2) ht' hs (by decide) (by decide)
    rw [nmR_fst, nmR_all (by decide) (by decide) (by decide)] at e
    exact e
  have mw : ∀ (d : Nat) (s : pS), wfS n s → RR (pv_X0 L xs) (d + 1) 188 0 [some (.ref 55), some (.int 1), some (.int 1), some (.int 3), none, none] [] (enc (tM (uI (sRM u G) 24 (jI k)) s)) = some (some (.int (nmR T 1 1 3 s).1), enc (tM (uI (sRM u G) 24 (jI k)) (nmR T 1 1 3 s).2)) := fun d s hs => by
    have e := M_number (L := L) (xs := xs) (d := d) (x := 1) (y := 3) (k := 1) ht' hs (by decide) (by decide)
    rw [nmR_fst] at e
    exact e
  rw [B186_0, e24, e21]
  unfold rdG
  by_cases q : k < 30
  case neg =>
    rw [if_pos (show jI k = 30 by show jI k = jI 30; rw [jI_eq (by omega) (by omega)]; omega), if_neg q, M_fails h hn, pv_bd_some, if_neg fl_some]
    exact B186_17
  rw [if_neg (show ¬ jI k = 30 by show ¬ jI k = jI 30; rw [jI_eq (by omega) (by omega)]; omega), if_pos q, e15, mt _ _ h, pv_bd_some, show teamR T (gI u 15) (-1) s = q1 T (gI u 15) s from rfl]
  simp only [Option.toList_some, List.cons_append, List.nil_append]
  have w1 := wf_q1 (nT := gI u 15) ht h
  rw [B186_30, M_sign ht' (by decide) (by decide) w1, pv_bd_some]
  simp only [Option.toList_none, List.nil_append]
  have w2 := wf_n1 (nT := gI u 15) ht h
  rw [B186_37, e15, mt _ _ w2, pv_bd_some, e21]
  simp only [Option.toList_some, List.cons_append, List.nil_append]
  have w3 := wf_q2 (nT := gI u 15) ht h
  have wt := wf_teamR (nT := gI u 15) (x := -1) ht w2
  have o2 : q2 T (gI u 15) s = _ := teamR_o h15
  have go : RR (pv_X0 L xs) (d + 3) 186 54 [some (.ref 55), some (.int (q1 T (gI u 15) s).1), some (.int (jI (nd T 45 (q1 T (gI u 15) s).2).1)), none, none, none, none, none] [.int (teamR T (gI u 15) (-1) (nd T 45 (q1 T (gI u 15) s).2)).1] (enc (tM (uI (sRM u G) 24 (jI k)) (teamR T (gI u 15) (-1) (nd T 45 (q1 T (gI u 15) s).2)).2)) = RR (pv_X0 L xs) (d + 3) 186 72 [some (.ref 55), some (.int (q1 T (gI u 15) s).1), some (.int (jI (nd T 45 (q1 T (gI u 15) s).2).1)), some (.int (q2 T (gI u 15) s).1), none, none, none, none] [] (enc (tM (uI (sRM u G) 24 (jI k)) (q2 T (gI u 15) s).2)) := by
    rw [B186_54, e22, o2]
    by_cases c1 : (teamR T (gI u 15) (-1) (nd T 45 (q1 T (gI u 15) s).2)).2.2 = none
    · rw [if_neg (by rw [fI_neg wt hn]; exact fun r => r c1)]
      by_cases c2 : (teamR T (gI u 15) (-1) (nd T 45 (q1 T (gI u 15) s).2)).1 = (q1 T (gI u 15) s).1
      · rw [if_pos c2, if_pos ⟨c1, c2⟩, M_fails wt hn, pv_bd_some]
        rfl
      · rw [if_neg c2, if_neg (fun r => c2 r.2)]
    · rw [if_pos (by rw [fI_neg wt hn]; exact c1), if_neg (fun r => c1 r.1)]
  rw [go]
  rw [B186_72, M_sign ht' (by decide) (by decide) w3, pv_bd_some]
  simp only [Option.toList_none, List.nil_append]
  have w4 := wf_n2 (nT := gI u 15) ht h
  rw [B186_78, mn _ _ w4, pv_bd_some, show nmC T 4 (nd T 58 (q2 T (gI u 15) s).2) = q3 T (gI u 15) s from rfl]
  simp only [Option.toList_some, List.cons_append, List.nil_append]
  have w5 := wf_q3 (nT := gI u 15) ht h
  rw [B186_87, M_sign ht' (by decide) (by decide) w5, pv_bd_some]
  simp only [Option.toList_none, List.nil_append]
  have w6 := wf_n3 (nT := gI u 15) ht h
  rw [B186_95, mn _ _ w6, pv_bd_some, show nmC T 4 (nd T 45 (q3 T (gI u 15) s).2) = q4 T (gI u 15) s from rfl]
  simp only [Option.toList_some, List.cons_append, List.nil_append]
  have w7 := wf_q4 (nT := gI u 15) ht h
  rw [B186_104, M_sign ht' (by decide) (by decide) w7, pv_bd_some]
  simp only [Option.toList_none, List.nil_append]
  have w8 := wf_n4 (nT := gI u 15) ht h
  rw [B186_112, md _ _ w8, pv_bd_some, show nmC T 2 (nd T 64 (q4 T (gI u 15) s).2) = q5 T (gI u 15) s from rfl]
  simp only [Option.toList_some, List.cons_append, List.nil_append]
  have w9 := wf_q5 (nT := gI u 15) ht h
  have wz := wf_q6 (nT := gI u 15) ht h
  rw [B186_120, e22]
  have hs : (if (q6 T (gI u 15) s).2.2 = none then (ptG G k (q1 T (gI u 15) s).1 (q2 T (gI u 15) s).1 (q3 T (gI u 15) s).1.toInt64 (q4 T (gI u 15) s).1.toInt64 (q5 T (gI u 15) s).1 (q6 T (gI u 15) s).1, (q6 T (gI u 15) s).2) else (G, (q6 T (gI u 15) s).2)) = (if (q6 T (gI u 15) s).2.2 = none then ptG G k (q1 T (gI u 15) s).1 (q2 T (gI u 15) s).1 (q3 T (gI u 15) s).1.toInt64 (q4 T (gI u 15) s).1.toInt64 (q5 T (gI u 15) s).1 (q6 T (gI u 15) s).1 else G, (q6 T (gI u 15) s).2) := by
    split <;> rfl
  rw [hs]
  have fin : ∀ (t : pS) (w : Int32), wfS n t → t.2 = none → (pv_bd (RR (pv_X0 L xs) (d + 2) 132 0 [some (.ref 55), some (.int (jI k)), some (.int (q1 T (gI u 15) s).1), some (.int (q2 T (gI u 15) s).1), some (.long (q3 T (gI u 15) s).1.toInt64), none, some (.long (q4 T (gI u 15) s).1.toInt64), none, some (.int (q5 T (gI u 15) s).1), some (.int w)] [] (enc (tM (uI (sRM u G) 24 (jI k)) t))) fun v' w' => RR (pv_X0 L xs) (d + 3) 186 187 [some (.ref 55), some (.int (q1 T (gI u 15) s).1), some (.int (jI (nd T 45 (q1 T (gI u 15) s).2).1)), some (.int (q2 T (gI u 15) s).1), some (.int (q3 T (gI u 15) s).1), some (.int (q4 T (gI u 15) s).1), some (.int (q5 T (gI u 15) s).1), some (.int w)] (v'.toList ++ []) w') = some (none, enc (tM (uI (sRM u (ptG G k (q1 T (gI u 15) s).1 (q2 T (gI u 15) s).1 (q3 T (gI u 15) s).1.toInt64 (q4 T (gI u 15) s).1.toInt64 (q5 T (gI u 15) s).1 w)) 24 (jI (k + 1))) t)) := by
    intro t w hw hf
    rw [M_puts (by omega), pv_bd_some, pt_sRM]
    refine B186_187.trans ?_
    rw [e24, jI_succ, i24_tM]
  by_cases c1 : (q5 T (gI u 15) s).2.2 = none
  case neg =>
    have e6 : q6 T (gI u 15) s = (1, (q5 T (gI u 15) s).2) := by
      unfold q6
      refine if_neg (fun r => c1 (T_sk ht (by decide) r).1)
    have hp : 0 ≤ fI (q5 T (gI u 15) s).2.2 := by rw [fI_neg w9 hn]; exact c1
    rw [if_pos hp, if_pos hp, e6, if_neg c1, if_neg c1]
  have hp : ¬ 0 ≤ fI (q5 T (gI u 15) s).2.2 := by rw [fI_neg w9 hn]; exact fun r => r c1
  rw [if_neg hp, M_here ht' w9, pv_bd_some]
  simp only [Option.toList_some, List.cons_append, List.nil_append]
  rw [B186_136, e22, e24]
  by_cases c2 : T (q5 T (gI u 15) s).2.1 = 120
  · have c3 : skB T 120 (q5 T (gI u 15) s).2 = true := by
      unfold skB
      rw [decide_eq_true c1, decide_eq_true c2]
      rfl
    have e6 : q6 T (gI u 15) s = nmR T 1 1 3 (adv (q5 T (gI u 15) s).2) := if_pos c3
    have wa := wf_adv w9 (T_sk ht (by decide) c3).2
    rw [if_pos ((hr_eq ht (by decide) (by decide)).mpr c2), adv_tM, mw _ _ wa, pv_bd_some, ← e6]
    simp only [Option.toList_some, List.cons_append, List.nil_append]
    rw [B186_158, e22, e24]
    by_cases c4 : (q6 T (gI u 15) s).2.2 = none
    · rw [if_neg (by rw [fI_neg wz hn]; exact fun r => r c4), if_pos c4, if_pos c4]
      exact fin _ _ wz c4
    · rw [if_pos (by rw [fI_neg wz hn]; exact c4), if_neg c4, if_neg c4]
  · have c3 : ¬ skB T 120 (q5 T (gI u 15) s).2 = true := by
      unfold skB
      rw [decide_eq_false c2, Bool.and_false]
      decide
    have e6 : q6 T (gI u 15) s = (1, (q5 T (gI u 15) s).2) := if_neg c3
    rw [if_neg (fun r => c2 ((hr_eq ht (by decide) (by decide)).mp r)), if_neg hp, e6, if_pos c1, if_pos c1]
    exact fin _ _ w9 c1
end TAPE4
