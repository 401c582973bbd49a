/-! results (printed by wip/whole/ops/pp.py) -/
abbrev okAt (nT : Int32) (G : pG) (g : Nat) : Prop := okG nT (G.1 g) (G.2.1 g) (G.2.2.2.2.2.1 g) (G.2.2.2.2.2.2 g) (G.2.2.1 g) (G.2.2.2.1 g) (G.2.2.2.2.1 g)
section TAPE5
variable {L : Nat} {xs : Nat → Int32} {u : pv_U} {d k n p r i N : Nat} {x y z c nT : Int32} {T : Nat → Int32} {s t : pS} {G : pG}
theorem rdG_put {g : Nat} (h6 : nT.toInt ≤ 6) (h : okAt nT G g) : okAt nT (rdG T nT k s G).1 g := by
  unfold rdG
  by_cases q : k < 30
  · rw [if_pos q]
    by_cases q2 : (q6 T nT s).2.2 = none
    · rw [if_pos q2]
      have := rdG_ok q2 h6
      by_cases e : g = k
      · simp only [okAt, ptG, up, if_pos e]
        exact this
      · simp only [okAt, ptG, up, if_neg e]
        exact h
    · rw [if_neg q2]
      exact h
  · rw [if_neg q]
    exact h
theorem rdG_new (h6 : nT.toInt ≤ 6) (h : (rdG T nT k s G).2.2 = none) : k < 30 ∧ okAt nT (rdG T nT k s G).1 k := by
  unfold rdG at h ⊢
  by_cases q : k < 30
  · rw [if_pos q] at h ⊢
    by_cases q2 : (q6 T nT s).2.2 = none
    · rw [if_pos q2]
      have := rdG_ok q2 h6
      refine ⟨q, ?_⟩
      simp only [okAt, ptG, up, if_true]
      exact this
    · rw [if_neg q2] at h
      exact absurd h q2
  · rw [if_neg q] at h
    exact absurd h fl_some
theorem rsF_ok (h6 : nT.toInt ≤ 6) {m : Nat} (h : ∀ g, g < N + k → okAt nT G g) (h0 : s.2 = none) : ((rsF T nT N m k s G).2.1.2 = none → ∀ g, g < N + (rsF T nT N m k s G).1 → okAt nT (rsF T nT N m k s G).2.2 g) ∧ (∀ g, okAt nT G g → okAt nT (rsF T nT N m k s G).2.2 g) ∧ (rsF T nT N m k s G).1 ≤ k + m := by
  induction m generalizing k s G with
  | zero => exact ⟨fun _ => h, fun g q => q, Nat.le_refl _⟩
  | succ m ih =>
    have e : rsF T nT N (m + 1) k s G = if skB T 59 (rdG T nT (N + k) s G).2 = true then rsF T nT N m (k + 1) (adv (rdG T nT (N + k) s G).2) (rdG T nT (N + k) s G).1 else (k + 1, (rdG T nT (N + k) s G).2, (rdG T nT (N + k) s G).1) := rfl
    rw [e]
    have hstep : (rdG T nT (N + k) s G).2.2 = none → ∀ g, g < N + (k + 1) → okAt nT (rdG T nT (N + k) s G).1 g := fun q g hg => by
      by_cases e : g = N + k
      · rw [e]
        exact (rdG_new h6 q).2
      · exact rdG_put h6 (h g (by omega))
    by_cases q : skB T 59 (rdG T nT (N + k) s G).2 = true
    · rw [if_pos q]
      have q0 : (rdG T nT (N + k) s G).2.2 = none := by
        unfold skB at q
        rw [Bool.and_eq_true, decide_eq_true_eq] at q
        exact q.1
      have := ih (k := k + 1) (s := adv (rdG T nT (N + k) s G).2) (G := (rdG T nT (N + k) s G).1) (hstep q0) q0
      exact ⟨this.1, fun g hg => this.2.1 g (rdG_put h6 hg), by omega⟩
    · rw [if_neg q]
      exact ⟨hstep, fun g hg => rdG_put h6 hg, by show k + 1 ≤ _; omega⟩
theorem rdG_vd (h : ∀ g, g < 31 → chOk (G.2.2.2.2.1 g)) : ∀ g, g < 31 → chOk ((rdG T nT k s G).1.2.2.2.2.1 g) := fun g hg => by
  unfold rdG
  split
  · split
    · show chOk (up G.2.2.2.2.1 k 0 g)
      unfold up
      split
      · exact ⟨by decide, by decide⟩
      · exact h g hg
    · exact h g hg
  · exact h g hg
theorem rsF_vd {m : Nat} (h : ∀ g, g < 31 → chOk (G.2.2.2.2.1 g)) : ∀ g, g < 31 → chOk ((rsF T nT N m k s G).2.2.2.2.2.2.1 g) := by
  induction m generalizing k s G with
  | zero => exact h
  | succ m ih =>
    have e : rsF T nT N (m + 1) k s G = if skB T 59 (rdG T nT (N + k) s G).2 = true then rsF T nT N m (k + 1) (adv (rdG T nT (N + k) s G).2) (rdG T nT (N + k) s G).1 else (k + 1, (rdG T nT (N + k) s G).2, (rdG T nT (N + k) s G).1) := rfl
    rw [e]
    by_cases q : skB T 59 (rdG T nT (N + k) s G).2 = true
    · rw [if_pos q]
      exact ih (rdG_vd h)
    · rw [if_neg q]
      exact rdG_vd h
theorem rsF_lim {m : Nat} (h : (rsF T nT N m k s G).2.1.2 = none) (hk : N + k ≤ 30) : N + (rsF T nT N m k s G).1 ≤ 30 := by
  induction m generalizing k s G with
  | zero => exact hk
  | succ m ih =>
    have e : rsF T nT N (m + 1) k s G = if skB T 59 (rdG T nT (N + k) s G).2 = true then rsF T nT N m (k + 1) (adv (rdG T nT (N + k) s G).2) (rdG T nT (N + k) s G).1 else (k + 1, (rdG T nT (N + k) s G).2, (rdG T nT (N + k) s G).1) := rfl
    rw [e] at h ⊢
    have hf : ∀ q : (rdG T nT (N + k) s G).2.2 = none, N + k < 30 := fun q => by
      unfold rdG at q
      by_cases c : N + k < 30
      · exact c
      · rw [if_neg c] at q
        exact absurd q fl_some
    by_cases q : skB T 59 (rdG T nT (N + k) s G).2 = true
    · rw [if_pos q] at h ⊢
      have q0 : (rdG T nT (N + k) s G).2.2 = none := by
        unfold skB at q
        rw [Bool.and_eq_true, decide_eq_true_eq] at q
        exact q.1
      exact ih h (by have := hf q0; omega)
    · rw [if_neg q] at h ⊢
      have := hf h
      show N + (k + 1) ≤ 30
      omega
theorem wf_rsF (ht : tpe u r i T n) {m : Nat} (h : wfS n s) : wfS n (rsF T nT N m k s G).2.1 := by
  induction m generalizing k s G with
  | zero => exact h
  | succ m ih =>
    have e : rsF T nT N (m + 1) k s G = if skB T 59 (rdG T nT (N + k) s G).2 = true then rsF T nT N m (k + 1) (adv (rdG T nT (N + k) s G).2) (rdG T nT (N + k) s G).1 else (k + 1, (rdG T nT (N + k) s G).2, (rdG T nT (N + k) s G).1) := rfl
    rw [e]
    have w := wf_rdG (nT := nT) (k := N + k) (G := G) ht h
    by_cases q : skB T 59 (rdG T nT (N + k) s G).2 = true
    · rw [if_pos q]
      exact ih (wf_adv w (T_sk ht (by decide) q).2)
    · rw [if_neg q]
      exact w
theorem rdG_full (hk : 30 ≤ k) : ¬ skB T 59 (rdG T nT k s G).2 = true := by
  unfold rdG skB
  rw [if_neg (by omega), decide_eq_false fl_some, Bool.false_and]
  decide
/-! the class -/
theorem C_resL (ht : tpe u 23 11 T n) (hN : gI u 2 = jI N) {m : Nat} (hm : N + k + m = 30) (h : wfS n s) : RR (pv_X0 L xs) (d + 5) 79 13 [some (.ref 0), some (.int (jI k)), some (.int 1), some (.int (jI k))] [] (enc (tC (sRC u G) s)) = RR (pv_X0 L xs) (d + 5) 79 13 [some (.ref 0), some (.int (jI (rsF T (gI u 1) N (m + 1) k s G).1)), some (.int 0), some (.int (jI (rsF T (gI u 1) N (m + 1) k s G).1))] [] (enc (tC (sRC u (rsF T (gI u 1) N (m + 1) k s G).2.2) (rsF T (gI u 1) N (m + 1) k s G).2.1)) := by
  induction m generalizing k s G with
  | zero =>
    have e : rsF T (gI u 1) N (0 + 1) k s G = if skB T 59 (rdG T (gI u 1) (N + k) s G).2 = true then rsF T (gI u 1) N 0 (k + 1) (adv (rdG T (gI u 1) (N + k) s G).2) (rdG T (gI u 1) (N + k) s G).1 else (k + 1, (rdG T (gI u 1) (N + k) s G).2, (rdG T (gI u 1) (N + k) s G).1) := rfl
    have e2 : gI (tC (sRC u G) s) 2 = jI N := by rw [gI_tC, if_neg (by decide), if_neg (by decide)]; exact hN
    have q := rdG_full (T := T) (nT := gI u 1) (k := N + k) (s := s) (G := G) (by omega)
    have w := wf_rdG (nT := gI u 1) (k := N + k) (G := G) ht h
    rw [B79_13, if_neg (by show ¬ jI 120 ≤ jI k; rw [jI_le (by omega) (by omega)]; omega), if_neg (by decide), e2, jI_add, C_readGame ht h (by omega), pv_bd_some]
    simp only [Option.toList_none, List.nil_append]
    rw [B79_36, C_skips (tpe_sRC ht) w, pv_bd_some]
    simp only [Option.toList_some, List.cons_append, List.nil_append]
    rw [B79_48, jI_succ, if_neg q, e, if_neg q]
    show RR _ _ _ _ _ _ (enc (tC _ (skS T 59 _))) = _
    unfold skS
    rw [if_neg q]
  | succ m ih =>
    have e : rsF T (gI u 1) N (m + 1 + 1) k s G = if skB T 59 (rdG T (gI u 1) (N + k) s G).2 = true then rsF T (gI u 1) N (m + 1) (k + 1) (adv (rdG T (gI u 1) (N + k) s G).2) (rdG T (gI u 1) (N + k) s G).1 else (k + 1, (rdG T (gI u 1) (N + k) s G).2, (rdG T (gI u 1) (N + k) s G).1) := rfl
    have e2 : gI (tC (sRC u G) s) 2 = jI N := by rw [gI_tC, if_neg (by decide), if_neg (by decide)]; exact hN
    have w := wf_rdG (nT := gI u 1) (k := N + k) (G := G) ht h
    rw [B79_13, if_neg (by show ¬ jI 120 ≤ jI k; rw [jI_le (by omega) (by omega)]; omega), if_neg (by decide), e2, jI_add, C_readGame ht h (by omega), pv_bd_some]
    simp only [Option.toList_none, List.nil_append]
    rw [B79_36, C_skips (tpe_sRC ht) w, pv_bd_some]
    simp only [Option.toList_some, List.cons_append, List.nil_append]
    rw [B79_48, jI_succ, e]
    by_cases q : skB T 59 (rdG T (gI u 1) (N + k) s G).2 = true
    · have e7 : skS T 59 (rdG T (gI u 1) (N + k) s G).2 = adv (rdG T (gI u 1) (N + k) s G).2 := if_pos q
      rw [if_pos q, if_pos q, e7]
      exact ih (by omega) (wf_adv w (T_sk ht (by decide) q).2)
    · have e7 : skS T 59 (rdG T (gI u 1) (N + k) s G).2 = (rdG T (gI u 1) (N + k) s G).2 := if_neg q
      rw [if_neg q, if_neg q, e7]
theorem wf_sE (h : wfS n s) : wfS n (sE n s) := by
  unfold sE
  split
  · exact wf_fl0 h
  · exact h
theorem sE_tC {v : Int32} : uI (tC u s) 11 v = tC (uI u 11 v) s := by
  refine pv_ext (fun j => ?_) (fun _ => rfl) (fun _ _ => rfl) (fun _ _ => rfl)
  simp only [gI_uI, gI_tC]
  grind
theorem C_endsWell (ht : tpe u 23 11 T n) (h : wfS n s) : RR (pv_X0 L xs) (d + 2) 91 0 [some (.ref 44)] [] (enc (tC u s)) = some (some (.int (if (sE n s).2 = none then 1 else 0)), enc (tC (uI u 11 0) (sE n s))) := by
  have e : gI (tC u s) 12 = jI s.1 := by rw [gI_tC, if_neg (by decide), if_pos rfl]
  have e2 : gI (tC u s) 11 = jI n := by rw [gI_tC, if_neg (by decide), if_neg (by decide)]; exact ht.2.1
  have hn := ht.1
  have hs := h.1
  have fin : ∀ t, wfS n t → RR (pv_X0 L xs) (d + 2) 91 19 [some (.ref 44)] [] (enc (tC u t)) = some (some (.int (if t.2 = none then 1 else 0)), enc (tC (uI u 11 0) t)) := fun t w => by
    rw [B91_19, sE_tC, C_failed w hn, pv_bd_some]
    simp only [Option.toList_some, List.cons_append, List.nil_append]
    rw [B91_28]
    by_cases q : t.2 = none
    · rw [if_pos q, if_pos rfl, if_pos q]
    · rw [if_neg q, if_neg (by decide), if_neg q]
  rw [B91_0, e, e2]
  unfold sE
  by_cases q : n ≤ s.1
  · rw [if_pos (by rw [jI_le (by omega) (by omega)]; exact q), if_neg (show ¬ s.1 < n by omega)]
    exact fin _ h
  · rw [if_neg (by rw [jI_le (by omega) (by omega)]; exact q), if_pos (show s.1 < n by omega), C_failAt h hn, pv_bd_some]
    exact fin _ (wf_fl0 h)
/-! the reference -/
theorem M_resE (ht : tpe u 33 20 T n) (h : wfS n s) : (if 0 ≤ gI (tM u s) 22 then RR (pv_X0 L xs) (d + 1) 185 81 [some (.ref 55), none] [] (enc (tM u s)) else (if gI (tM u s) 20 ≤ gI (tM u s) 21 then RR (pv_X0 L xs) (d + 1) 185 81 [some (.ref 55), none] [] (enc (tM u s)) else (pv_bd (RR (pv_X0 L xs) d 187 0 [some (.ref 55), some (.int (gI (tM u s) 21))] [] (enc (tM u s))) fun v w => RR (pv_X0 L xs) (d + 1) 185 81 [some (.ref 55), none] (v.toList ++ []) w))) = RR (pv_X0 L xs) (d + 1) 185 81 [some (.ref 55), none] [] (enc (tM u (sE n s))) := by
  have e21 : gI (tM u s) 21 = jI s.1 := by rw [gI_tM, if_neg (by decide), if_pos rfl]
  have e22 : gI (tM u s) 22 = fI s.2 := by rw [gI_tM, if_pos rfl]
  have e20 : gI (tM u s) 20 = jI n := by rw [gI_tM, if_neg (by decide), if_neg (by decide)]; exact ht.2.1
  have hn := ht.1
  have hs := h.1
  rw [e20, e21, e22]
  unfold sE
  by_cases q0 : s.2 = none
  case neg =>
    rw [if_pos (by rw [fI_neg h hn]; exact q0)]
    by_cases q : s.1 < n
    · rw [if_pos q, fl_fl q0]
    · rw [if_neg q]
  rw [if_neg (by rw [fI_neg h hn]; exact fun r => r q0)]
  by_cases q : n ≤ s.1
  · rw [if_pos (by rw [jI_le (by omega) (by omega)]; exact q), if_neg (show ¬ s.1 < n by omega)]
  · rw [if_neg (by rw [jI_le (by omega) (by omega)]; exact q), if_pos (show s.1 < n by omega), M_fails h hn, pv_bd_some]
    rfl
theorem M_resL (ht : tpe u 33 20 T n) (h15 : 0 ≤ (gI u 15).toInt) {m : Nat} (hm : N + k + m = 30) (h : wfS n s) : ∃ x : Int32, ((rsF T (gI u 15) N (m + 1) k s G).2.1.2 = none → x = jI (N + (rsF T (gI u 15) N (m + 1) k s G).1)) ∧ RR (pv_X0 L xs) (d + 4) 185 22 [some (.ref 55), none] [] (enc (tM (uI (sRM u (rdG T (gI u 15) (N + k) s G).1) 24 (jI (if (rdG T (gI u 15) (N + k) s G).2.2 = none then N + k + 1 else N + k))) (rdG T (gI u 15) (N + k) s G).2)) = RR (pv_X0 L xs) (d + 4) 185 81 [some (.ref 55), none] [] (enc (tM (uI (sRM u (rsF T (gI u 15) N (m + 1) k s G).2.2) 24 x) (sE n (rsF T (gI u 15) N (m + 1) k s G).2.1))) := by
  induction m generalizing k s G with
  | zero =>
    have e : rsF T (gI u 15) N (0 + 1) k s G = if skB T 59 (rdG T (gI u 15) (N + k) s G).2 = true then rsF T (gI u 15) N 0 (k + 1) (adv (rdG T (gI u 15) (N + k) s G).2) (rdG T (gI u 15) (N + k) s G).1 else (k + 1, (rdG T (gI u 15) (N + k) s G).2, (rdG T (gI u 15) (N + k) s G).1) := rfl
    have q := rdG_full (T := T) (nT := gI u 15) (k := N + k) (s := s) (G := G) (by omega)
    have w := wf_rdG (nT := gI u 15) (k := N + k) (G := G) ht h
    rw [e, if_neg q]
    have q2 : ¬ (rdG T (gI u 15) (N + k) s G).2.2 = none := by
      unfold rdG
      rw [if_neg (by omega)]
      exact fl_some
    refine ⟨jI (if (rdG T (gI u 15) (N + k) s G).2.2 = none then N + k + 1 else N + k), fun q => absurd q q2, ?_⟩
    have h22 : ∀ v : pv_U, gI (tM v (rdG T (gI u 15) (N + k) s G).2) 22 = fI (rdG T (gI u 15) (N + k) s G).2.2 := fun v => by rw [gI_tM, if_pos rfl]
    rw [B185_22, if_pos (by rw [h22, fI_neg w ht.1]; exact q2)]
    exact M_resE (d := d + 3) (tpe_sRM ht) w
  | succ m ih =>
    have e : rsF T (gI u 15) N (m + 1 + 1) k s G = if skB T 59 (rdG T (gI u 15) (N + k) s G).2 = true then rsF T (gI u 15) N (m + 1) (k + 1) (adv (rdG T (gI u 15) (N + k) s G).2) (rdG T (gI u 15) (N + k) s G).1 else (k + 1, (rdG T (gI u 15) (N + k) s G).2, (rdG T (gI u 15) (N + k) s G).1) := rfl
    have w := wf_rdG (nT := gI u 15) (k := N + k) (G := G) ht h
    have hn := ht.1
    rw [e]
    generalize hr : rdG T (gI u 15) (N + k) s G = R at *
    have h22 : ∀ v : pv_U, gI (tM v R.2) 22 = fI R.2.2 := fun v => by rw [gI_tM, if_pos rfl]
    by_cases q2 : R.2.2 = none
    case neg =>
      have q : ¬ skB T 59 R.2 = true := by
        unfold skB
        rw [decide_eq_false q2, Bool.false_and]
        decide
      rw [if_neg q]
      refine ⟨jI (if R.2.2 = none then N + k + 1 else N + k), fun q => absurd q q2, ?_⟩
      rw [B185_22, if_pos (by rw [h22, fI_neg w hn]; exact q2)]
      exact M_resE (d := d + 3) (tpe_sRM ht) w
    have ht' : tpe (uI (sRM u R.1) 24 (jI (if R.2.2 = none then N + k + 1 else N + k))) 33 20 T n := tpe_sRM ht
    have f22 : ¬ 0 ≤ gI (tM (uI (sRM u R.1) 24 (jI (if R.2.2 = none then N + k + 1 else N + k))) R.2) 22 := by
      rw [h22, fI_neg w hn]
      exact fun r => r q2
    by_cases q : T R.2.1 = 59
    · have c3 : skB T 59 R.2 = true := by
        unfold skB
        rw [decide_eq_true q2, decide_eq_true q]
        rfl
      have wa := wf_adv w (T_sk ht (by decide) c3).2
      rw [if_pos c3]
      have st : RR (pv_X0 L xs) (d + 4) 185 22 [some (.ref 55), none] [] (enc (tM (uI (sRM u R.1) 24 (jI (if R.2.2 = none then N + k + 1 else N + k))) R.2)) = RR (pv_X0 L xs) (d + 4) 185 22 [some (.ref 55), none] [] (enc (tM (uI (sRM u (rdG T (gI u 15) (N + k + 1) (adv R.2) R.1).1) 24 (jI (if (rdG T (gI u 15) (N + k + 1) (adv R.2) R.1).2.2 = none then N + k + 1 + 1 else N + k + 1))) (rdG T (gI u 15) (N + k + 1) (adv R.2) R.1).2)) := by
        rw [B185_22, if_neg f22, M_here ht' w, pv_bd_some]
        simp only [Option.toList_some, List.cons_append, List.nil_append]
        rw [B185_33, if_pos ((hr_eq ht (by decide) (by decide)).mpr q), adv_tM, if_pos q2, M_readGame (k := N + k + 1) ht wa h15 (by omega), pv_bd_some]
        exact B185_52
      obtain ⟨x, hx, hy⟩ := ih (k := k + 1) (s := adv R.2) (G := R.1) (by omega) wa
      exact ⟨x, hx, st.trans hy⟩
    · have c3 : ¬ skB T 59 R.2 = true := by
        unfold skB
        rw [decide_eq_false q, Bool.and_false]
        decide
      rw [if_neg c3]
      refine ⟨jI (if R.2.2 = none then N + k + 1 else N + k), fun _ => by rw [if_pos q2]; rfl, ?_⟩
      rw [B185_22, if_neg f22, M_here ht' w, pv_bd_some]
      simp only [Option.toList_some, List.cons_append, List.nil_append]
      rw [B185_33, if_neg (fun r => q ((hr_eq ht (by decide) (by decide)).mp r))]
      exact M_resE (d := d + 3) ht' w
end TAPE5
