/-! a CONDITION, read on both sides (printed by wip/whole/ops/pp.py) -/
/-- every GAME -/
abbrev allB (N : Nat) : Int32 := ((1 : Int32) <<< (jI N &&& 31)) - 1
/-- f, then as often as c stands there, f again -/
def lpS (T : Nat → Int32) (c : Int32) (op : Int32 → Int32 → Int32) (f : pS → Int32 × pS) : Nat → Int32 → pS → Int32 × pS
  | 0, p, s => (p, s)
  | m + 1, p, s => if skB T c s = true then lpS T c op f m (op p (f (adv s)).1) (f (adv s)).2 else (p, s)
def bth (T : Nat → Int32) (f : pS → Int32 × pS) (s : pS) : Int32 × pS := lpS T 38 (fun a b => a &&& b) f 120 (f s).1 (f s).2
def eth (T : Nat → Int32) (f : pS → Int32 × pS) (s : pS) : Int32 × pS := lpS T 124 (fun a b => a ||| b) (bth T f) 120 (bth T f s).1 (bth T f s).2
def onF (T : Nat → Int32) (all : Int32) (cmp : pS → Int32 × pS) : Nat → pS → Int32 × pS
  | 0, s => cmp s
  | l + 1, s => if skB T 33 s = true then (all &&& ((onF T all cmp l (adv s)).1 ^^^ (-1)), (onF T all cmp l (adv s)).2) else if skB T 40 s = true then ((eth T (onF T all cmp l) (adv s)).1, nd T 41 (eth T (onF T all cmp l) (adv s)).2) else cmp s
/-- goes on, within THE TAPE -/
def goS (n : Nat) (f : pS → Int32 × pS) : Prop := ∀ s, wfS n s → wfS n (f s).2 ∧ s.1 ≤ (f s).2.1
section COND2
variable {L : Nat} {xs : Nat → Int32} {u : pv_U} {d k n p r i N : Nat} {x y z c all : Int32} {T : Nat → Int32} {s t : pS} {f cmp : pS → Int32 × pS} {op : Int32 → Int32 → Int32}
theorem go_lp (ht : tpe u r i T n) (hc : c ≠ 0) (hf : goS n f) {m : Nat} {p : Int32} (h : wfS n s) : wfS n (lpS T c op f m p s).2 ∧ s.1 ≤ (lpS T c op f m p s).2.1 := by
  induction m generalizing p s with
  | zero => exact ⟨h, Nat.le_refl _⟩
  | succ m ih =>
    have e : lpS T c op f (m + 1) p s = if skB T c s = true then lpS T c op f m (op p (f (adv s)).1) (f (adv s)).2 else (p, s) := rfl
    rw [e]
    by_cases q : skB T c s = true
    · rw [if_pos q]
      have h1 := hf (adv s) (wf_adv h (T_sk ht hc q).2)
      have h2 := ih (p := op p (f (adv s)).1) h1.1
      have h3 : s.1 + 1 ≤ (f (adv s)).2.1 := h1.2
      exact ⟨h2.1, by omega⟩
    · rw [if_neg q]
      exact ⟨h, Nat.le_refl _⟩
theorem go_bth (ht : tpe u r i T n) (hf : goS n f) : goS n (bth T f) := fun s h => by
  have h1 := hf s h
  have h2 := go_lp (op := fun a b => a &&& b) (c := 38) ht (by decide) hf (m := 120) (p := (f s).1) h1.1
  exact ⟨h2.1, Nat.le_trans h1.2 h2.2⟩
theorem go_eth (ht : tpe u r i T n) (hf : goS n f) : goS n (eth T f) := fun s h => by
  have hb := go_bth ht hf
  have h1 := hb s h
  have h2 := go_lp (op := fun a b => a ||| b) (c := 124) ht (by decide) hb (m := 120) (p := (bth T f s).1) h1.1
  exact ⟨h2.1, Nat.le_trans h1.2 h2.2⟩
theorem nd_le : s.1 ≤ (nd T c s).1 := by
  unfold nd
  split
  · exact Nat.le_succ _
  · exact Nat.le_refl _
theorem go_on (ht : tpe u r i T n) (hc : goS n cmp) {l : Nat} : goS n (onF T all cmp l) := by
  induction l with
  | zero => exact hc
  | succ l ih =>
    intro s h
    have e : onF T all cmp (l + 1) s = if skB T 33 s = true then (all &&& ((onF T all cmp l (adv s)).1 ^^^ (-1)), (onF T all cmp l (adv s)).2) else if skB T 40 s = true then ((eth T (onF T all cmp l) (adv s)).1, nd T 41 (eth T (onF T all cmp l) (adv s)).2) else cmp s := rfl
    rw [e]
    by_cases q : skB T 33 s = true
    · rw [if_pos q]
      have h1 := ih (adv s) (wf_adv h (T_sk ht (by decide) q).2)
      have h3 : s.1 + 1 ≤ (onF T all cmp l (adv s)).2.1 := h1.2
      exact ⟨h1.1, by show s.1 ≤ (onF T all cmp l (adv s)).2.1; omega⟩
    rw [if_neg q]
    by_cases q2 : skB T 40 s = true
    · rw [if_pos q2]
      have h1 := go_eth ht ih (adv s) (wf_adv h (T_sk ht (by decide) q2).2)
      have h3 : s.1 + 1 ≤ (eth T (onF T all cmp l) (adv s)).2.1 := h1.2
      have h4 := nd_le (T := T) (c := 41) (s := (eth T (onF T all cmp l) (adv s)).2)
      exact ⟨wf_nd ht (by decide) h1.1, by show s.1 ≤ (nd T 41 (eth T (onF T all cmp l) (adv s)).2).1; omega⟩
    · rw [if_neg q2]
      exact hc s h
theorem sk_failed (h : ¬ s.2 = none) : skB T c s = false := by
  unfold skB
  rw [decide_eq_false h, Bool.false_and]
theorem on_failed {l : Nat} (hc : ∀ s : pS, ¬ s.2 = none → cmp s = (0, s)) (h : ¬ s.2 = none) : onF T all cmp l s = (0, s) := by
  cases l with
  | zero => exact hc s h
  | succ l =>
    show (if skB T 33 s = true then _ else if skB T 40 s = true then _ else cmp s) = _
    rw [sk_failed h, if_neg (by decide), sk_failed h, if_neg (by decide), hc s h]
/-! the class -/
theorem C_lpB (ht : tpe u 23 11 T n) (hf : goS n f) {D : Nat} (hF : ∀ s, wfS n s → RR (pv_X0 L xs) (D + 1) 95 0 [some (.ref 0), some (.int x), none] [] (enc (tC u s)) = some (some (.int (f s).1), enc (tC u (f s).2))) {m j : Nat} {p : Int32} (hj : j + m = 120) (h : wfS n s) : RR (pv_X0 L xs) (D + 2) 94 8 [some (.ref 0), some (.int x), some (.int p), some (.int (jI j))] [] (enc (tC u s)) = some (some (.int (lpS T 38 (fun a b => a &&& b) f m p s).1), enc (tC u (lpS T 38 (fun a b => a &&& b) f m p s).2)) := by
  induction m generalizing j p s with
  | zero =>
    rw [B94_8, if_pos (by show jI 120 ≤ jI j; rw [jI_le (by omega) (by omega)]; omega)]
    rfl
  | succ m ih =>
    have e : lpS T 38 (fun a b => a &&& b) f (m + 1) p s = if skB T 38 s = true then lpS T 38 (fun a b => a &&& b) f m (p &&& (f (adv s)).1) (f (adv s)).2 else (p, s) := rfl
    rw [B94_8, if_neg (by show ¬ jI 120 ≤ jI j; rw [jI_le (by omega) (by omega)]; omega), C_skips ht h, pv_bd_some]
    simp only [Option.toList_some, List.cons_append, List.nil_append]
    rw [B94_23, ite01, e]
    by_cases q : skB T 38 s = true
    · have e7 : skS T 38 s = adv s := if_pos q
      have wa := wf_adv h (T_sk ht (by decide) q).2
      rw [if_pos q, if_pos q, e7, hF _ wa, pv_bd_some]
      simp only [Option.toList_some, List.cons_append, List.nil_append]
      rw [B94_32, jI_succ]
      exact ih (by omega) (hf _ wa).1
    · have e7 : skS T 38 s = s := if_neg q
      rw [if_neg q, if_neg q, e7]
theorem C_bth (ht : tpe u 23 11 T n) (hf : goS n f) {D : Nat} (hF : ∀ s, wfS n s → RR (pv_X0 L xs) (D + 1) 95 0 [some (.ref 0), some (.int x), none] [] (enc (tC u s)) = some (some (.int (f s).1), enc (tC u (f s).2))) (h : wfS n s) : RR (pv_X0 L xs) (D + 2) 94 0 [some (.ref 0), some (.int x), none, none] [] (enc (tC u s)) = some (some (.int (bth T f s).1), enc (tC u (bth T f s).2)) := by
  rw [B94_0, hF s h, pv_bd_some]
  simp only [Option.toList_some, List.cons_append, List.nil_append]
  rw [B94_5]
  exact C_lpB ht hf hF (m := 120) (j := 0) (by omega) (hf s h).1
theorem C_lpE (ht : tpe u 23 11 T n) (hf : goS n f) {D : Nat} (hF : ∀ s, wfS n s → RR (pv_X0 L xs) (D + 1) 94 0 [some (.ref 0), some (.int x), none, none] [] (enc (tC u s)) = some (some (.int (f s).1), enc (tC u (f s).2))) {m j : Nat} {p : Int32} (hj : j + m = 120) (h : wfS n s) : RR (pv_X0 L xs) (D + 2) 93 8 [some (.ref 0), some (.int x), some (.int p), some (.int (jI j))] [] (enc (tC u s)) = some (some (.int (lpS T 124 (fun a b => a ||| b) f m p s).1), enc (tC u (lpS T 124 (fun a b => a ||| b) f m p s).2)) := by
  induction m generalizing j p s with
  | zero =>
    rw [B93_8, if_pos (by show jI 120 ≤ jI j; rw [jI_le (by omega) (by omega)]; omega)]
    rfl
  | succ m ih =>
    have e : lpS T 124 (fun a b => a ||| b) f (m + 1) p s = if skB T 124 s = true then lpS T 124 (fun a b => a ||| b) f m (p ||| (f (adv s)).1) (f (adv s)).2 else (p, s) := rfl
    rw [B93_8, if_neg (by show ¬ jI 120 ≤ jI j; rw [jI_le (by omega) (by omega)]; omega), C_skips ht h, pv_bd_some]
    simp only [Option.toList_some, List.cons_append, List.nil_append]
    rw [B93_23, ite01, e]
    by_cases q : skB T 124 s = true
    · have e7 : skS T 124 s = adv s := if_pos q
      have wa := wf_adv h (T_sk ht (by decide) q).2
      rw [if_pos q, if_pos q, e7, hF _ wa, pv_bd_some]
      simp only [Option.toList_some, List.cons_append, List.nil_append]
      rw [B93_32, jI_succ]
      exact ih (by omega) (hf _ wa).1
    · have e7 : skS T 124 s = s := if_neg q
      rw [if_neg q, if_neg q, e7]
theorem C_eth (ht : tpe u 23 11 T n) (hf : goS n f) {D : Nat} (hF : ∀ s, wfS n s → RR (pv_X0 L xs) (D + 1) 95 0 [some (.ref 0), some (.int x), none] [] (enc (tC u s)) = some (some (.int (f s).1), enc (tC u (f s).2))) (h : wfS n s) : RR (pv_X0 L xs) (D + 3) 93 0 [some (.ref 0), some (.int x), none, none] [] (enc (tC u s)) = some (some (.int (eth T f s).1), enc (tC u (eth T f s).2)) := by
  have hb := go_bth ht hf
  have hB : ∀ s, wfS n s → RR (pv_X0 L xs) (D + 2) 94 0 [some (.ref 0), some (.int x), none, none] [] (enc (tC u s)) = some (some (.int (bth T f s).1), enc (tC u (bth T f s).2)) := fun s h => C_bth ht hf hF h
  rw [B93_0, hB s h, pv_bd_some]
  simp only [Option.toList_some, List.cons_append, List.nil_append]
  rw [B93_5]
  exact C_lpE (D := D + 1) ht hb hB (m := 120) (j := 0) (by omega) (hb s h).1
theorem C_on (ht : tpe u 23 11 T n) (hN : gI u 2 = jI N) (h30 : N ≤ 30) {l : Nat} (hl : l ≤ 4) (d : Nat) (s : pS) (h : wfS n s) : RR (pv_X0 L xs) (d + 3 * l + 8) 95 0 [some (.ref 0), some (.int (jI (4 - l))), none] [] (enc (tC u s)) = some (some (.int (onF T (allB N) (cm T (fun w sg b => gwF (vC u w) sg b N)) l s).1), enc (tC u (onF T (allB N) (cm T (fun w sg b => gwF (vC u w) sg b N)) l s).2)) := by
  have hc : goS n (cm T (fun w sg b => gwF (vC u w) sg b N)) := fun s h => wf_cm ht h
  induction l generalizing d s with
  | zero =>
    rw [B95_0, if_pos (by decide), if_pos (by decide), C_cmp ht hN h30 h, pv_bd_some]
    exact B95_75
  | succ l ih =>
    have e : onF T (allB N) (cm T (fun w sg b => gwF (vC u w) sg b N)) (l + 1) s = if skB T 33 s = true then ((allB N) &&& ((onF T (allB N) (cm T (fun w sg b => gwF (vC u w) sg b N)) l (adv s)).1 ^^^ (-1)), (onF T (allB N) (cm T (fun w sg b => gwF (vC u w) sg b N)) l (adv s)).2) else if skB T 40 s = true then ((eth T (onF T (allB N) (cm T (fun w sg b => gwF (vC u w) sg b N)) l) (adv s)).1, nd T 41 (eth T (onF T (allB N) (cm T (fun w sg b => gwF (vC u w) sg b N)) l) (adv s)).2) else cm T (fun w sg b => gwF (vC u w) sg b N) s := rfl
    have go := go_on (all := allB N) (l := l) ht hc
    have x4 : ¬ (4 : Int32) ≤ jI (4 - (l + 1)) := by show ¬ jI 4 ≤ jI (4 - (l + 1)); rw [jI_le (by omega) (by omega)]; omega
    have eD : d + 3 * (l + 1) + 8 = d + 2 + 3 * l + 8 + 1 := by omega
    have eD2 : d + 3 * (l + 1) + 8 = (d + 3 * l + 7) + 3 + 1 := by omega
    have ih' := fun d s h => ih (by omega) d s h
    generalize onF T (allB N) (cm T (fun w sg b => gwF (vC u w) sg b N)) l = F at *
    rw [e, eD, B95_0, if_neg x4, C_skips ht h, pv_bd_some]
    simp only [Option.toList_some, List.cons_append, List.nil_append]
    rw [B95_14, ite01]
    by_cases q : skB T 33 s = true
    · have e7 : skS T 33 s = adv s := if_pos q
      have wa := wf_adv h (T_sk ht (by decide) q).2
      rw [if_pos q, if_pos q, e7, B96_0, pv_bd_some]
      simp only [Option.toList_some, List.cons_append, List.nil_append]
      have eg : gI (tC u (adv s)) 2 = jI N := by rw [gI_tC, if_neg (by decide), if_neg (by decide)]; exact hN
      rw [B95_24, jI_succ, show 4 - (l + 1) + 1 = 4 - l by omega, ih' (d + 2) _ wa, pv_bd_some, eg]
      exact B95_31
    have e7 : skS T 33 s = s := if_neg q
    rw [if_neg q, if_neg q, e7, if_neg x4, C_skips ht h, pv_bd_some]
    simp only [Option.toList_some, List.cons_append, List.nil_append]
    rw [B95_49, ite01]
    by_cases q2 : skB T 40 s = true
    · have e8 : skS T 40 s = adv s := if_pos q2
      have wa := wf_adv h (T_sk ht (by decide) q2).2
      have ce := C_eth (L := L) (xs := xs) (x := jI (4 - l)) (D := d + 3 * l + 7) ht go (fun s h => ih' d s h) wa
      rw [if_pos q2, if_pos q2, e8, jI_succ, show 4 - (l + 1) + 1 = 4 - l by omega, show d + 2 + 3 * l + 8 = d + 3 * l + 7 + 3 by omega, ce, pv_bd_some]
      simp only [Option.toList_some, List.cons_append, List.nil_append]
      rw [B95_59, C_need ht (by decide) (go_eth ht go _ wa).1, pv_bd_some]
      exact B95_69
    · have e8 : skS T 40 s = s := if_neg q2
      rw [if_neg q2, if_neg q2, e8, C_cmp ht hN h30 h, pv_bd_some]
      exact B95_75
end COND2
