/-! pick, voidAll (printed by wip/whole/ops/pp.py) -/
/-- a row set -/
def rA (u : pv_U) (r : Nat) (f : Nat → Int32) : pv_U := (u.1, u.2.1, fun q => if q = r then f else u.2.2.1 q, u.2.2.2)
abbrev btP (p : Int32) (g : Nat) : Prop := (p >>> (jI g &&& 31)) &&& 1 = 1
def vdF (v : Nat → Int32) (p x : Int32) (k g : Nat) : Int32 := if g < k ∧ btP p g then x else v g
abbrev vdC (v : Nat → Int32) (p x : Int32) (k : Nat) : Int32 := sumN (fun g => if btP p g ∧ v g ≠ x then 1 else 0) k
section PICK
variable {L : Nat} {xs : Nat → Int32} {u : pv_U} {d k n p r i N : Nat} {x y z c all : Int32} {T : Nat → Int32} {s t : pS} {f cmp : pS → Int32 × pS} {V : Int32 → Nat → Int64}
theorem gI_rA {q : Nat} {f : Nat → Int32} : gI (rA u r f) q = gI u q := rfl
theorem gJ_rA {q : Nat} {f : Nat → Int32} : gJ (rA u r f) q = gJ u q := rfl
theorem gB_rA {q : Nat} {f : Nat → Int32} : gB (rA u r f) q = gB u q := rfl
theorem gA_rA {q : Nat} {f : Nat → Int32} : gA (rA u r f) q = if q = r then f else gA u q := rfl
theorem rA_self : rA u r (gA u r) = u := by
  refine pv_ext (fun _ => rfl) (fun _ => rfl) (fun q j => ?_) (fun _ _ => rfl)
  rw [gA_rA]
  by_cases e : q = r
  · rw [if_pos e, e]
  · rw [if_neg e]
theorem rA_up {f : Nat → Int32} {j : Nat} {v : Int32} : uA (rA u r f) r j v = rA u r (up f j v) := by
  refine pv_ext (fun _ => rfl) (fun _ => rfl) (fun q m => ?_) (fun _ _ => rfl)
  rw [gA_uA, gA_rA, gA_rA]
  unfold up
  by_cases e : q = r
  · simp only [if_pos e]
  · simp only [if_neg e]
/-! the reference's loops -/
theorem M_lpB (ht : tpe u 33 20 T n) (hf : goS n f) {D : Nat} (hF : ∀ s, wfS n s → RR (pv_X0 L xs) (D + 1) 195 0 [some (.ref 55), some (.int x), none, none] [] (enc (tM u s)) = some (some (.int (f s).1), enc (tM u (f s).2))) {m : Nat} {p : Int32} (hm : n ≤ s.1 + m) (h : wfS n s) : RR (pv_X0 L xs) (D + 2) 194 6 [some (.ref 55), some (.int x), some (.int p)] [] (enc (tM u s)) = some (some (.int (lpS T 38 (fun a b => a &&& b) f m p s).1), enc (tM u (lpS T 38 (fun a b => a &&& b) f m p s).2)) := by
  have hn := ht.1
  have e22 : ∀ t, gI (tM u t) 22 = fI t.2 := fun t => by rw [gI_tM, if_pos rfl]
  induction m generalizing p s with
  | zero =>
    have e : lpS T 38 (fun a b => a &&& b) f 0 p s = (p, s) := rfl
    rw [B194_6, e22, e]
    by_cases q : s.2 = none
    · rw [if_neg (by rw [fI_neg h hn]; exact fun r => r q), M_here ht h, pv_bd_some]
      simp only [Option.toList_some, List.cons_append, List.nil_append]
      rw [B194_17, if_neg]
      unfold hr
      rw [if_neg (by omega)]
      decide
    · rw [if_pos (by rw [fI_neg h hn]; exact q)]
  | succ m ih =>
    have e : lpS T 38 (fun a b => a &&& b) f (m + 1) p s = if skB T 38 s = true then lpS T 38 (fun a b => a &&& b) f m (p &&& (f (adv s)).1) (f (adv s)).2 else (p, s) := rfl
    rw [B194_6, e22, e]
    by_cases q : s.2 = none
    case neg => rw [if_pos (by rw [fI_neg h hn]; exact q), sk_failed q, if_neg (by decide)]
    rw [if_neg (by rw [fI_neg h hn]; exact fun r => r q), M_here ht h, pv_bd_some]
    simp only [Option.toList_some, List.cons_append, List.nil_append]
    rw [B194_17]
    by_cases q2 : T s.1 = 38
    · have k1 : skB T 38 s = true := by
        unfold skB
        rw [decide_eq_true q, decide_eq_true q2]
        rfl
      have wa := wf_adv h (T_sk ht (by decide) k1).2
      have hg := hf _ wa
      have h3 : s.1 + 1 ≤ (f (adv s)).2.1 := hg.2
      rw [if_pos ((hr_eq ht (by decide) (by decide)).mpr q2), adv_tM, if_pos k1, hF _ wa, pv_bd_some]
      simp only [Option.toList_some, List.cons_append, List.nil_append]
      rw [B194_38]
      exact ih (by omega) hg.1
    · have k1 : ¬ skB T 38 s = true := by
        unfold skB
        rw [decide_eq_false q2, Bool.and_false]
        decide
      rw [if_neg (fun r => q2 ((hr_eq ht (by decide) (by decide)).mp r)), if_neg k1]
theorem M_bth (ht : tpe u 33 20 T n) (hf : goS n f) {D : Nat} (hF : ∀ s, wfS n s → RR (pv_X0 L xs) (D + 1) 195 0 [some (.ref 55), some (.int x), none, none] [] (enc (tM u s)) = some (some (.int (f s).1), enc (tM u (f s).2))) (h : wfS n s) : RR (pv_X0 L xs) (D + 2) 194 0 [some (.ref 55), some (.int x), none] [] (enc (tM u s)) = some (some (.int (bth T f s).1), enc (tM u (bth T f s).2)) := by
  have hn := ht.1
  rw [B194_0, hF s h, pv_bd_some]
  simp only [Option.toList_some, List.cons_append, List.nil_append]
  rw [B194_5]
  exact M_lpB ht hf hF (m := 120) (by omega) (hf s h).1
theorem M_lpE (ht : tpe u 33 20 T n) (hf : goS n f) {D : Nat} (hF : ∀ s, wfS n s → RR (pv_X0 L xs) (D + 1) 194 0 [some (.ref 55), some (.int x), none] [] (enc (tM u s)) = some (some (.int (f s).1), enc (tM u (f s).2))) {m : Nat} {p : Int32} (hm : n ≤ s.1 + m) (h : wfS n s) : RR (pv_X0 L xs) (D + 2) 193 6 [some (.ref 55), some (.int x), some (.int p)] [] (enc (tM u s)) = some (some (.int (lpS T 124 (fun a b => a ||| b) f m p s).1), enc (tM u (lpS T 124 (fun a b => a ||| b) f m p s).2)) := by
  have hn := ht.1
  have e22 : ∀ t, gI (tM u t) 22 = fI t.2 := fun t => by rw [gI_tM, if_pos rfl]
  induction m generalizing p s with
  | zero =>
    have e : lpS T 124 (fun a b => a ||| b) f 0 p s = (p, s) := rfl
    rw [B193_6, e22, e]
    by_cases q : s.2 = none
    · rw [if_neg (by rw [fI_neg h hn]; exact fun r => r q), M_here ht h, pv_bd_some]
      simp only [Option.toList_some, List.cons_append, List.nil_append]
      rw [B193_17, if_neg]
      unfold hr
      rw [if_neg (by omega)]
      decide
    · rw [if_pos (by rw [fI_neg h hn]; exact q)]
  | succ m ih =>
    have e : lpS T 124 (fun a b => a ||| b) f (m + 1) p s = if skB T 124 s = true then lpS T 124 (fun a b => a ||| b) f m (p ||| (f (adv s)).1) (f (adv s)).2 else (p, s) := rfl
    rw [B193_6, e22, e]
    by_cases q : s.2 = none
    case neg => rw [if_pos (by rw [fI_neg h hn]; exact q), sk_failed q, if_neg (by decide)]
    rw [if_neg (by rw [fI_neg h hn]; exact fun r => r q), M_here ht h, pv_bd_some]
    simp only [Option.toList_some, List.cons_append, List.nil_append]
    rw [B193_17]
    by_cases q2 : T s.1 = 124
    · have k1 : skB T 124 s = true := by
        unfold skB
        rw [decide_eq_true q, decide_eq_true q2]
        rfl
      have wa := wf_adv h (T_sk ht (by decide) k1).2
      have hg := hf _ wa
      have h3 : s.1 + 1 ≤ (f (adv s)).2.1 := hg.2
      rw [if_pos ((hr_eq ht (by decide) (by decide)).mpr q2), adv_tM, if_pos k1, hF _ wa, pv_bd_some]
      simp only [Option.toList_some, List.cons_append, List.nil_append]
      rw [B193_38]
      exact ih (by omega) hg.1
    · have k1 : ¬ skB T 124 s = true := by
        unfold skB
        rw [decide_eq_false q2, Bool.and_false]
        decide
      rw [if_neg (fun r => q2 ((hr_eq ht (by decide) (by decide)).mp r)), if_neg k1]
theorem M_eth (ht : tpe u 33 20 T n) (hf : goS n f) {D : Nat} (hF : ∀ s, wfS n s → RR (pv_X0 L xs) (D + 1) 195 0 [some (.ref 55), some (.int x), none, none] [] (enc (tM u s)) = some (some (.int (f s).1), enc (tM u (f s).2))) (h : wfS n s) : RR (pv_X0 L xs) (D + 3) 193 0 [some (.ref 55), some (.int x), none] [] (enc (tM u s)) = some (some (.int (eth T f s).1), enc (tM u (eth T f s).2)) := by
  have hn := ht.1
  have hb := go_bth ht hf
  have hB : ∀ s, wfS n s → RR (pv_X0 L xs) (D + 2) 194 0 [some (.ref 55), some (.int x), none] [] (enc (tM u s)) = some (some (.int (bth T f s).1), enc (tM u (bth T f s).2)) := fun s h => M_bth ht hf hF h
  rw [B193_0, hB s h, pv_bd_some]
  simp only [Option.toList_some, List.cons_append, List.nil_append]
  rw [B193_5]
  exact M_lpE (D := D + 1) ht hb hB (m := 120) (by omega) (hb s h).1
theorem M_on (ht : tpe u 33 20 T n) (hN : gI u 16 = jI N) (h30 : N ≤ 30) (hV : ∀ w k, k < N → 0 ≤ w.toInt ∧ w.toInt ≤ 8 → vM u (swI w) k = V w k) {l : Nat} (hl : l ≤ 4) (d : Nat) (s : pS) (h : wfS n s) : RR (pv_X0 L xs) (d + 3 * l + 6) 195 0 [some (.ref 55), some (.int (jI (4 - l))), none, none] [] (enc (tM u s)) = some (some (.int (onF T (allB N) (cm T (fun w sg b => gwF (V w) sg b N)) l s).1), enc (tM u (onF T (allB N) (cm T (fun w sg b => gwF (V w) sg b N)) l s).2)) := by
  have hn := ht.1
  have hc : goS n (cm T (fun w sg b => gwF (V w) sg b N)) := fun s h => wf_cm ht h
  have e22 : ∀ t, gI (tM u t) 22 = fI t.2 := fun t => by rw [gI_tM, if_pos rfl]
  have e16 : ∀ t, gI (tM u t) 16 = jI N := fun t => by rw [gI_tM, if_neg (by decide), if_neg (by decide)]; exact hN
  induction l generalizing d s with
  | zero =>
    rw [B195_0, e22]
    show _ = some (some (Value.int (cm T (fun w sg b => gwF (V w) sg b N) s).1), enc (tM u (cm T (fun w sg b => gwF (V w) sg b N) s).2))
    by_cases q : s.2 = none
    case neg => rw [if_neg (by rw [fI_lt h hn]; exact q), cm_failed q]
    rw [if_pos (by rw [fI_lt h hn]; exact q), M_here ht h, pv_bd_some]
    simp only [Option.toList_some, List.cons_append, List.nil_append]
    rw [B195_22, if_pos (show (4 : Int32) ≤ jI (4 - 0) by decide), M_here ht h, pv_bd_some, ite_self]
    simp only [Option.toList_some, List.cons_append, List.nil_append]
    rw [B195_58, if_pos (show (4 : Int32) ≤ jI (4 - 0) by decide), ite_self, M_cmp ht hN h30 hV h q, pv_bd_some]
    exact B195_98
  | succ l ih =>
    have e : onF T (allB N) (cm T (fun w sg b => gwF (V w) sg b N)) (l + 1) s = if skB T 33 s = true then ((allB N) &&& ((onF T (allB N) (cm T (fun w sg b => gwF (V w) sg b N)) l (adv s)).1 ^^^ (-1)), (onF T (allB N) (cm T (fun w sg b => gwF (V w) sg b N)) l (adv s)).2) else if skB T 40 s = true then ((eth T (onF T (allB N) (cm T (fun w sg b => gwF (V w) sg b N)) l) (adv s)).1, nd T 41 (eth T (onF T (allB N) (cm T (fun w sg b => gwF (V w) sg b N)) l) (adv s)).2) else cm T (fun w sg b => gwF (V w) sg b N) s := rfl
    have go := go_on (all := allB N) (l := l) ht hc
    have x4 : ¬ (4 : Int32) ≤ jI (4 - (l + 1)) := by show ¬ jI 4 ≤ jI (4 - (l + 1)); rw [jI_le (by omega) (by omega)]; omega
    have eD : d + 3 * (l + 1) + 6 = d + 2 + 3 * l + 6 + 1 := by omega
    have ih' := fun d s h => ih (by omega) d s h
    have of := on_failed (T := T) (all := allB N) (cmp := cm T (fun w sg b => gwF (V w) sg b N)) (l := l + 1) (s := s) (fun s q => cm_failed q)
    rw [eD, B195_0, e22]
    by_cases q0 : s.2 = none
    case neg => rw [if_neg (by rw [fI_lt h hn]; exact q0), of q0]
    rw [if_pos (by rw [fI_lt h hn]; exact q0), M_here ht h, pv_bd_some, e16, e]
    generalize onF T (allB N) (cm T (fun w sg b => gwF (V w) sg b N)) l = F at *
    simp only [Option.toList_some, List.cons_append, List.nil_append]
    rw [B195_22]
    by_cases q : T s.1 = 33
    · have k1 : skB T 33 s = true := by
        unfold skB
        rw [decide_eq_true q0, decide_eq_true q]
        rfl
      have wa := wf_adv h (T_sk ht (by decide) k1).2
      rw [if_pos ((hr_eq ht (by decide) (by decide)).mpr q), if_neg x4, if_pos k1, adv_tM, jI_succ, show 4 - (l + 1) + 1 = 4 - l by omega, ih' (d + 2) _ wa, pv_bd_some]
      exact B195_50
    have k1 : ¬ skB T 33 s = true := by
      unfold skB
      rw [decide_eq_false q, Bool.and_false]
      decide
    rw [if_neg (fun r => q ((hr_eq ht (by decide) (by decide)).mp r)), if_neg k1, M_here ht h, pv_bd_some]
    simp only [Option.toList_some, List.cons_append, List.nil_append]
    rw [B195_58]
    by_cases q2 : T s.1 = 40
    · have k2 : skB T 40 s = true := by
        unfold skB
        rw [decide_eq_true q0, decide_eq_true q2]
        rfl
      have wa := wf_adv h (T_sk ht (by decide) k2).2
      have ce := M_eth (L := L) (xs := xs) (x := jI (4 - l)) (D := d + 3 * l + 5) ht go (fun s h => ih' d s h) wa
      rw [if_pos ((hr_eq ht (by decide) (by decide)).mpr q2), if_neg x4, if_pos k2, adv_tM, jI_succ, show 4 - (l + 1) + 1 = 4 - l by omega, show d + 2 + 3 * l + 6 = d + 3 * l + 5 + 3 by omega, ce, pv_bd_some]
      simp only [Option.toList_some, List.cons_append, List.nil_append]
      rw [B195_85, M_sign ht (by decide) (by decide) (go_eth ht go _ wa).1, pv_bd_some]
      exact B195_92
    · have k2 : ¬ skB T 40 s = true := by
        unfold skB
        rw [decide_eq_false q2, Bool.and_false]
        decide
      rw [if_neg (fun r => q2 ((hr_eq ht (by decide) (by decide)).mp r)), if_neg k2, M_cmp ht hN h30 hV h q0, pv_bd_some]
      exact B195_98
/-! the whole text -/
theorem C_cond (ht : tpe u 23 11 T n) (hN : gI u 2 = jI N) (h30 : N ≤ 30) : ∃ P : Int32 × pS, P = eth T (onF T (allB N) (cm T (fun w sg b => gwF (vC u w) sg b N)) 4) (0, none) ∧ wfS n P.2 ∧ RR (pv_X0 L xs) 98 93 0 [some (.ref 0), some (.int 0), none, none] [] (enc (tC u (0, none))) = some (some (.int P.1), enc (tC u P.2)) := by
  have w0 : wfS n (0, none) := ⟨Nat.zero_le _, fun p e => nomatch e⟩
  have hc : goS n (cm T (fun w sg b => gwF (vC u w) sg b N)) := fun s h => wf_cm ht h
  have go := go_on (all := allB N) (l := 4) ht hc
  have hF := C_on (L := L) (xs := xs) ht hN h30 (l := 4) (by decide) 76
  exact ⟨_, rfl, (go_eth ht go _ w0).1, C_eth (D := 95) ht go hF w0⟩
theorem M_cond (ht : tpe u 33 20 T n) (hN : gI u 16 = jI N) (h30 : N ≤ 30) (hV : ∀ w k, k < N → 0 ≤ w.toInt ∧ w.toInt ≤ 8 → vM u (swI w) k = V w k) : RR (pv_X0 L xs) 98 192 0 [some (.ref 55), none] [] (enc u) = some (some (.int (eth T (onF T (allB N) (cm T (fun w sg b => gwF (V w) sg b N)) 4) (0, none)).1), enc (uI (tM u (sE n (eth T (onF T (allB N) (cm T (fun w sg b => gwF (V w) sg b N)) 4) (0, none)).2)) 20 0)) := by
  have hn := ht.1
  have w0 : wfS n (0, none) := ⟨Nat.zero_le _, fun p e => nomatch e⟩
  have hc : goS n (cm T (fun w sg b => gwF (V w) sg b N)) := fun s h => wf_cm ht h
  have go := go_on (all := allB N) (l := 4) ht hc
  have hF := M_on (L := L) (xs := xs) ht hN h30 hV (l := 4) (by decide) 77
  have we := (go_eth ht go _ w0).1
  have ce := M_eth (L := L) (xs := xs) (x := 0) (D := 94) ht go hF w0
  rw [B192_0, rew_tM, ce, pv_bd_some]
  simp only [Option.toList_some, List.cons_append, List.nil_append]
  generalize eth T (onF T (allB N) (cm T (fun w sg b => gwF (V w) sg b N)) 4) (0, none) = P at *
  have e21 : gI (tM u P.2) 21 = jI P.2.1 := by rw [gI_tM, if_neg (by decide), if_pos rfl]
  have e22 : gI (tM u P.2) 22 = fI P.2.2 := by rw [gI_tM, if_pos rfl]
  have e20 : gI (tM u P.2) 20 = jI n := by rw [gI_tM, if_neg (by decide), if_neg (by decide)]; exact ht.2.1
  have hs := we.1
  rw [B192_15, e20, e21, e22]
  unfold sE
  by_cases q0 : P.2.2 = none
  case neg =>
    rw [if_pos (by rw [fI_neg we hn]; exact q0)]
    by_cases q : P.2.1 < n
    · rw [if_pos q, fl_fl q0, B192_42]
    · rw [if_neg q, B192_42]
  rw [if_neg (by rw [fI_neg we hn]; exact fun r => r q0)]
  by_cases q : n ≤ P.2.1
  · rw [if_pos (by rw [jI_le (by omega) (by omega)]; exact q), if_neg (show ¬ P.2.1 < n by omega), B192_42]
  · rw [if_neg (by rw [jI_le (by omega) (by omega)]; exact q), if_pos (show P.2.1 < n by omega), M_fails we hn, pv_bd_some]
    exact B192_42
theorem P_pick (h : Inv u) : Both L xs 92 191 [some (.ref 0), none] [some (.ref 55), none] u := by
  have h0 := h
  obtain ⟨n, hn, hn11, htC, htM⟩ := inv_tape h
  obtain ⟨⟨b1, b2, b3, b4, b5, b6, b7, b8, b9, b10⟩, ⟨g1, g2⟩, ⟨f1, f2⟩, ⟨t1, t2, t3⟩, ⟨p1, p2, p3⟩, hL, ⟨k1, k2, k3⟩⟩ := h
  have hN := i32_nat b4.1
  have h30 : (gI u 2).toInt.toNat ≤ 30 := by omega
  have hN' := b3.symm.trans hN
  generalize (gI u 2).toInt.toNat = N at *
  generalize tpT u n = T at *
  obtain ⟨P, hP, wP, cP⟩ := C_cond (L := L) (xs := xs) htC hN h30
  have htM' : tpe (tC (uI u 11 0) (sE n P.2)) 33 20 T n := by
    obtain ⟨a1, a2, a3, a4⟩ := htM
    exact ⟨a1, by simp only [gI_uI, gI_tC, Nat.reduceEqDiff, reduceIte]; exact a2, a3, a4⟩
  have mc := M_cond (L := L) (xs := xs) (u := tC (uI u 11 0) (sE n P.2)) (V := vC u) htM' (N := N) (by simp only [gI_uI, gI_tC, Nat.reduceEqDiff, reduceIte]; exact hN') h30 (fun w k hk hw => (V_eq h0 hN h30 hk hw : vM u (swI w) k = vC u w k))
  rw [← hP] at mc
  have we := wf_sE wP
  have cE : RR (pv_X0 L xs) 99 92 0 [some (.ref 0), none] [] (enc u) = RR (pv_X0 L xs) 99 92 20 [some (.ref 0), some (.int P.1)] [.int (if (sE n P.2).2 = none then 1 else 0)] (enc (tC (uI u 11 0) (sE n P.2))) := by
    rw [B92_0, B80_0, pv_bd_some, rew_tC]
    simp only [Option.toList_none, List.nil_append]
    rw [B92_7, cP, pv_bd_some]
    simp only [Option.toList_some, List.cons_append, List.nil_append]
    rw [B92_12, C_endsWell htC wP, pv_bd_some]
    rfl
  refine ⟨.int (if (sE n P.2).2 = none then P.1 else -100 - fI (sE n P.2).2), tC (uI u 11 0) (sE n P.2), uI (tM (tC (uI u 11 0) (sE n P.2)) (sE n P.2)) 20 0, ?_, ?_, ?_, rfl⟩
  · rw [cE, B92_20]
    by_cases q : (sE n P.2).2 = none
    · rw [if_pos q, if_neg (by decide), if_pos q]
    · rw [if_neg q, if_pos rfl, if_neg q, gI_tC, if_pos rfl]
  · rw [B191_0, mc, pv_bd_some]
    simp only [Option.toList_some, List.cons_append, List.nil_append]
    have e22 : gI (uI (tM (tC (uI u 11 0) (sE n P.2)) (sE n P.2)) 20 0) 22 = fI (sE n P.2).2 := by simp only [gI_uI, gI_tM, Nat.reduceEqDiff, reduceIte]
    rw [B191_4, e22]
    by_cases q : (sE n P.2).2 = none
    · rw [if_pos (by rw [fI_lt we hn]; exact q), if_pos q]
    · rw [if_neg (by rw [fI_lt we hn]; exact q), if_neg q]
  · simp only [Inv, invB, invG, invF, invT, invP, invL, invL1, invK, gI_uI, gI_uJ, gI_uA, gI_uB, gJ_uI, gJ_uJ, gJ_uA, gJ_uB, gA_uI, gA_uJ, gA_uA, gA_uB, gB_uI, gB_uJ, gB_uA, gB_uB, gI_tC, gI_tM, gJ_tC, gJ_tM, gA_tC, gA_tM, gB_tC, gB_tM] at *
    simp only [Nat.reduceEqDiff, reduceIte]
    refine ⟨⟨b1, b2, b3, b4, b5, b6, b7, b8, b9, b10⟩, ⟨g1, g2⟩, ⟨f1, f2⟩, ⟨trivial, ⟨by decide, by decide⟩, fun k hk => ?_⟩, ⟨p1, p2, p3⟩, hL, ⟨k1, k2, k3⟩⟩
    rw [z0] at hk
    omega
/-! voidAll -/
theorem C_voidL (hN : gI u 2 = jI N) (h30 : N ≤ 30) (hx : chOk x) (hv : ∀ k, k < N → chOk (gA u 4 k)) {p : Int32} : RR (pv_X0 L xs) d 103 48 [some (.ref 0), some (.int x), some (.int p), some (.int 0), some (.int 0)] [] (enc u) = some (some (.int (vdC (gA u 4) p x N)), enc (rA u 4 (vdF (gA u 4) p x N))) := by
  obtain ⟨a, h1, h2⟩ := pv_loop (R := fun k (a : Int32 × pv_U) => RR (pv_X0 L xs) d 103 48 [some (.ref 0), some (.int x), some (.int p), some (.int a.1), some (.int (jI k))] [] (enc a.2)) (P := fun k a => a = (vdC (gA u 4) p x k, rA u 4 (vdF (gA u 4) p x k))) (N := N) (fun k a hk ha => ⟨(vdC (gA u 4) p x (k + 1), rA u 4 (vdF (gA u 4) p x (k + 1))), by
    subst ha
    have es : vdC (gA u 4) p x (k + 1) = vdC (gA u 4) p x k + if btP p k ∧ gA u 4 k ≠ x then 1 else 0 := rfl
    have ek : vdF (gA u 4) p x k k = gA u 4 k := if_neg (fun q => absurd q.1 (by omega))
    have eu : vdF (gA u 4) p x (k + 1) = if btP p k then up (vdF (gA u 4) p x k) k x else vdF (gA u 4) p x k := by
      funext g
      unfold vdF
      by_cases c : btP p k
      · rw [if_pos c]
        unfold up
        by_cases e : g = k
        · rw [e, if_pos ⟨by omega, c⟩, if_pos rfl]
        · rw [if_neg e]
          show (if g < k + 1 ∧ btP p g then x else gA u 4 g) = (if g < k ∧ btP p g then x else gA u 4 g)
          by_cases c2 : g < k ∧ btP p g
          · rw [if_pos (show g < k + 1 ∧ btP p g from ⟨by omega, c2.2⟩), if_pos c2]
          · rw [if_neg (show ¬ (g < k + 1 ∧ btP p g) from fun q => c2 ⟨by omega, q.2⟩), if_neg c2]
      · rw [if_neg c]
        show (if g < k + 1 ∧ btP p g then x else gA u 4 g) = (if g < k ∧ btP p g then x else gA u 4 g)
        by_cases e : g = k
        · rw [e, if_neg (fun q => c q.2), if_neg (fun q => c q.2)]
        · by_cases c2 : g < k ∧ btP p g
          · rw [if_pos (show g < k + 1 ∧ btP p g from ⟨by omega, c2.2⟩), if_pos c2]
          · rw [if_neg (show ¬ (g < k + 1 ∧ btP p g) from fun q => c2 ⟨by omega, q.2⟩), if_neg c2]
    have same : gA u 4 k = x → up (vdF (gA u 4) p x k) k x = vdF (gA u 4) p x k := fun e => by
      funext g
      unfold up
      by_cases q : g = k
      · rw [if_pos q, q, ek, e]
      · rw [if_neg q]
    show RR (pv_X0 L xs) d 103 48 [some (.ref 0), some (.int x), some (.int p), some (.int (vdC (gA u 4) p x k)), some (.int (jI k))] [] (enc (rA u 4 (vdF (gA u 4) p x k))) = RR (pv_X0 L xs) d 103 48 [some (.ref 0), some (.int x), some (.int p), some (.int (vdC (gA u 4) p x (k + 1))), some (.int (jI (k + 1)))] [] (enc (rA u 4 (vdF (gA u 4) p x (k + 1))))
    rw [B103_48, gI_rA, hN, if_neg (jI_run hk (by omega)), es, eu]
    by_cases c : btP p k
    case neg => rw [if_neg c, if_neg c, if_neg (fun q => c q.1), Int32.add_zero, jI_succ]
    rw [if_pos c, if_pos c]
    simp only [pv_ixn (show k < 31 by omega) (show 31 < 1000000 by decide), gA_rA, reduceIte, ek, rA_up, jI_succ]
    by_cases e : gA u 4 k = x
    · rw [if_neg (show ¬ (btP p k ∧ gA u 4 k ≠ x) from fun q => q.2 e), Int32.add_zero, same e]
      rcases i32_01 hx with e1 | e1 <;> subst e1
      · rw [if_neg (by decide), if_pos e]
      · rw [if_pos rfl, if_pos e]
    · rw [if_pos (show btP p k ∧ gA u 4 k ≠ x from ⟨c, e⟩)]
      rcases i32_01 hx with e1 | e1 <;> subst e1
      · rw [if_neg (by decide), if_neg e, if_neg (by decide)]
      · rw [if_pos rfl, if_neg e, if_pos rfl], rfl⟩) (a0 := (0, u)) (by
    have : vdF (gA u 4) p x 0 = gA u 4 := by
      funext g
      unfold vdF
      rw [if_neg (fun q => absurd q.1 (by omega))]
    rw [this, rA_self]
    rfl)
  subst h2
  refine h1.trans ?_
  show RR (pv_X0 L xs) d 103 48 _ _ (enc (rA u 4 _)) = _
  rw [B103_48, gI_rA, hN, if_pos jI_end]
theorem M_voidL (hN : gI u 16 = jI N) (h30 : N ≤ 30) {p : Int32} : RR (pv_X0 L xs) d 199 37 [some (.ref 55), some (.int x), some (.int p), some (.int 0), some (.int 0)] [] (enc u) = some (some (.int (vdC (gA u 30) p x N)), enc (rA u 30 (vdF (gA u 30) p x N))) := by
  obtain ⟨a, h1, h2⟩ := pv_loop (R := fun k (a : Int32 × pv_U) => RR (pv_X0 L xs) d 199 37 [some (.ref 55), some (.int x), some (.int p), some (.int a.1), some (.int (jI k))] [] (enc a.2)) (P := fun k a => a = (vdC (gA u 30) p x k, rA u 30 (vdF (gA u 30) p x k))) (N := N) (fun k a hk ha => ⟨(vdC (gA u 30) p x (k + 1), rA u 30 (vdF (gA u 30) p x (k + 1))), by
    subst ha
    have es : vdC (gA u 30) p x (k + 1) = vdC (gA u 30) p x k + if btP p k ∧ gA u 30 k ≠ x then 1 else 0 := rfl
    have ek : vdF (gA u 30) p x k k = gA u 30 k := if_neg (fun q => absurd q.1 (by omega))
    have eu : vdF (gA u 30) p x (k + 1) = if btP p k then up (vdF (gA u 30) p x k) k x else vdF (gA u 30) p x k := by
      funext g
      unfold vdF
      by_cases c : btP p k
      · rw [if_pos c]
        unfold up
        by_cases e : g = k
        · rw [e, if_pos ⟨by omega, c⟩, if_pos rfl]
        · rw [if_neg e]
          show (if g < k + 1 ∧ btP p g then x else gA u 30 g) = (if g < k ∧ btP p g then x else gA u 30 g)
          by_cases c2 : g < k ∧ btP p g
          · rw [if_pos (show g < k + 1 ∧ btP p g from ⟨by omega, c2.2⟩), if_pos c2]
          · rw [if_neg (show ¬ (g < k + 1 ∧ btP p g) from fun q => c2 ⟨by omega, q.2⟩), if_neg c2]
      · rw [if_neg c]
        show (if g < k + 1 ∧ btP p g then x else gA u 30 g) = (if g < k ∧ btP p g then x else gA u 30 g)
        by_cases e : g = k
        · rw [e, if_neg (fun q => c q.2), if_neg (fun q => c q.2)]
        · by_cases c2 : g < k ∧ btP p g
          · rw [if_pos (show g < k + 1 ∧ btP p g from ⟨by omega, c2.2⟩), if_pos c2]
          · rw [if_neg (show ¬ (g < k + 1 ∧ btP p g) from fun q => c2 ⟨by omega, q.2⟩), if_neg c2]
    show RR (pv_X0 L xs) d 199 37 [some (.ref 55), some (.int x), some (.int p), some (.int (vdC (gA u 30) p x k)), some (.int (jI k))] [] (enc (rA u 30 (vdF (gA u 30) p x k))) = RR (pv_X0 L xs) d 199 37 [some (.ref 55), some (.int x), some (.int p), some (.int (vdC (gA u 30) p x (k + 1))), some (.int (jI (k + 1)))] [] (enc (rA u 30 (vdF (gA u 30) p x (k + 1))))
    rw [B199_37, gI_rA, hN, if_neg (jI_run hk (by omega)), es, eu]
    by_cases c : btP p k
    case neg => rw [if_neg c, if_neg c, if_neg (fun q => c q.1), Int32.add_zero, jI_succ]
    rw [if_pos c, if_pos c]
    simp only [pv_ixn (show k < 31 by omega) (show 31 < 1000000 by decide), gA_rA, reduceIte, ek, rA_up, jI_succ, Int32.add_zero]
    by_cases e : gA u 30 k = x
    · rw [if_neg (show ¬ (btP p k ∧ gA u 30 k ≠ x) from fun q => q.2 e), Int32.add_zero, if_pos e]
    · rw [if_pos (show btP p k ∧ gA u 30 k ≠ x from ⟨c, e⟩), if_neg e], rfl⟩) (a0 := (0, u)) (by
    have : vdF (gA u 30) p x 0 = gA u 30 := by
      funext g
      unfold vdF
      rw [if_neg (fun q => absurd q.1 (by omega))]
    rw [this, rA_self]
    rfl)
  subst h2
  refine h1.trans ?_
  show RR (pv_X0 L xs) d 199 37 _ _ (enc (rA u 30 _)) = _
  rw [B199_37, gI_rA, hN, if_pos jI_end]
theorem P_voidAll (h : Inv u) : Both L xs 103 199 [some (.ref 0), some (.int x), none, none, none] [some (.ref 55), some (.int x), none, none, none] u := by
  have h0 := h
  obtain ⟨n, hn, hn11, htC, htM⟩ := inv_tape h
  obtain ⟨⟨b1, b2, b3, b4, b5, b6, b7, b8, b9, b10⟩, ⟨g1, g2⟩, ⟨f1, f2⟩, ⟨t1, t2, t3⟩, ⟨p1, p2, p3⟩, hL, ⟨k1, k2, k3⟩⟩ := h
  have hN := i32_nat b4.1
  have h30 : (gI u 2).toInt.toNat ≤ 30 := by omega
  have hNt : (gI u 2).toInt.toNat = (gI u 2).toInt := by omega
  have hN' := b3.symm.trans hN
  generalize (gI u 2).toInt.toNat = N at *
  generalize tpT u n = T at *
  by_cases q1 : chOk x
  case neg =>
    refine ⟨.int (-1), u, u, ?_, ?_, h0, rfl⟩
    · simp only [B103_0, C_choice, B103_4, reduceIte, e10, pv_bd_some, Option.toList_some, Option.toList_none, List.cons_append, List.nil_append, List.append_nil, ite01, if_neg q1]
    · simp only [B199_0, M_isInI, B199_7, reduceIte, e10, pv_bd_some, Option.toList_some, Option.toList_none, List.cons_append, List.nil_append, List.append_nil, ite01, ← b1, ← b3, z0, z1, z2, z3, z4, z5, z6, z7, z12, z20, z30, z99, y0, y1, y2, y3, y6, y7, y99, y15, if_neg q1]
  obtain ⟨P, hP, wP, cP⟩ := C_cond (L := L) (xs := xs) htC hN h30
  have hv : ∀ k, k < N → chOk (gA u 4 k) := fun k hk => (g2 k (by omega) (Or.inl (by omega))).2.2.2.2.2.2.2.2.2
  have htM' : ∀ f, tpe (rA (tC (uI u 11 0) (sE n P.2)) 4 f) 33 20 T n := fun f => by
    obtain ⟨a1, a2, a3, a4⟩ := htM
    exact ⟨a1, by simp only [gI_rA, gI_uI, gI_tC, Nat.reduceEqDiff, reduceIte]; exact a2, a3, a4⟩
  have mc := fun f => M_cond (L := L) (xs := xs) (u := rA (tC (uI u 11 0) (sE n P.2)) 4 f) (V := vC u) (htM' f) (N := N) (by simp only [gI_rA, gI_uI, gI_tC, Nat.reduceEqDiff, reduceIte]; exact hN') h30 (fun w k hk hw => (V_eq h0 hN h30 hk hw : vM u (swI w) k = vC u w k))
  rw [← hP] at mc
  have we := wf_sE wP
  have cE : RR (pv_X0 L xs) 99 103 0 [some (.ref 0), some (.int x), none, none, none] [] (enc u) = RR (pv_X0 L xs) 99 103 29 [some (.ref 0), some (.int x), some (.int P.1), none, none] [.int (if (sE n P.2).2 = none then 1 else 0)] (enc (tC (uI u 11 0) (sE n P.2))) := by
    rw [B103_0, C_choice, pv_bd_some]
    simp only [Option.toList_some, List.cons_append, List.nil_append]
    rw [B103_4, ite01, if_pos q1, B80_0, pv_bd_some, rew_tC]
    simp only [Option.toList_none, List.nil_append]
    rw [B103_16, cP, pv_bd_some]
    simp only [Option.toList_some, List.cons_append, List.nil_append]
    rw [B103_21, C_endsWell htC wP, pv_bd_some]
    rfl
  have mE : ∀ f, RR (pv_X0 L xs) 99 199 0 [some (.ref 55), some (.int x), none, none, none] [] (enc (rA (tC (uI u 11 0) (sE n P.2)) 4 f)) = RR (pv_X0 L xs) 99 199 16 [some (.ref 55), some (.int x), none, none, none] [.int P.1] (enc (uI (tM (rA (tC (uI u 11 0) (sE n P.2)) 4 f) (sE n P.2)) 20 0)) := fun f => by
    rw [B199_0, M_isInI, pv_bd_some]
    simp only [Option.toList_some, List.cons_append, List.nil_append]
    rw [B199_7, ite01, if_pos (show (0 : Int64).toInt ≤ x.toInt ∧ x.toInt ≤ (1 : Int64).toInt from q1), mc f, pv_bd_some]
    rfl
  have e22 : ∀ f, gI (uI (tM (rA (tC (uI u 11 0) (sE n P.2)) 4 f) (sE n P.2)) 20 0) 22 = fI (sE n P.2).2 := fun f => by simp only [gI_uI, gI_tM, Nat.reduceEqDiff, reduceIte]
  have r4 : rA (tC (uI u 11 0) (sE n P.2)) 4 (gA u 4) = tC (uI u 11 0) (sE n P.2) := rA_self
  by_cases q : (sE n P.2).2 = none
  · refine ⟨.int (vdC (gA u 4) P.1 x N), rA (tC (uI u 11 0) (sE n P.2)) 4 (vdF (gA u 4) P.1 x N), rA (uI (tM (rA (tC (uI u 11 0) (sE n P.2)) 4 (vdF (gA u 4) P.1 x N)) (sE n P.2)) 20 0) 30 (vdF (gA u 30) P.1 x N), ?_, ?_, ?_, rfl⟩
    · rw [cE, B103_29, if_pos q, if_neg (by decide)]
      exact C_voidL (u := tC (uI u 11 0) (sE n P.2)) (by simp only [gI_uI, gI_tC, Nat.reduceEqDiff, reduceIte]; exact hN) h30 q1 hv
    · rw [mE, B199_16, e22, if_pos (by rw [fI_lt we hn]; exact q)]
      refine (M_voidL (u := uI (tM (rA (tC (uI u 11 0) (sE n P.2)) 4 (vdF (gA u 4) P.1 x N)) (sE n P.2)) 20 0) (by simp only [gI_uI, gI_tM, gI_rA, gI_tC, Nat.reduceEqDiff, reduceIte]; exact hN') h30).trans ?_
      have e30 : gA (uI (tM (rA (tC (uI u 11 0) (sE n P.2)) 4 (vdF (gA u 4) P.1 x N)) (sE n P.2)) 20 0) 30 = gA u 30 := rfl
      rw [e30]
      have e4 : gA u 30 = gA u 4 := funext fun k => (g1 k).2.2.2.2.2.2.symm
      rw [e4]
    · simp only [Inv, invB, invG, invF, invT, invP, invL, invL1, invK, gI_uI, gI_uJ, gI_uA, gI_uB, gJ_uI, gJ_uJ, gJ_uA, gJ_uB, gA_uI, gA_uJ, gA_uA, gA_uB, gB_uI, gB_uJ, gB_uA, gB_uB, gI_rA, gJ_rA, gA_rA, gB_rA, gI_tC, gI_tM, gJ_tC, gJ_tM, gA_tC, gA_tM, gB_tC, gB_tM] at *
      simp only [Nat.reduceEqDiff, reduceIte]
      refine ⟨⟨b1, b2, b3, b4, b5, b6, b7, b8, b9, b10⟩, ⟨fun k => ?_, fun k hk hq => ?_⟩, ⟨f1, f2⟩, ⟨trivial, ⟨by decide, by decide⟩, fun k hk => ?_⟩, ⟨p1, p2, p3⟩, hL, ⟨⟨k1.1, fun j hj => ⟨?_, (k1.2 j hj).2⟩⟩, k2, k3⟩⟩
      · obtain ⟨g11, g12, g13, g14, g15, g16, g17⟩ := g1 k
        refine ⟨g11, g12, g13, g14, g15, g16, ?_⟩
        show (if k < N ∧ btP P.1 k then x else gA u 4 k) = (if k < N ∧ btP P.1 k then x else gA u 30 k)
        rw [g17]
      · obtain ⟨w1, w2, w3, w4, w5, w6, w7, w8, w9, v1⟩ := g2 k hk hq
        refine ⟨w1, w2, w3, w4, w5, w6, w7, w8, w9, ?_⟩
        show chOk (if k < N ∧ btP P.1 k then x else gA u 4 k)
        split
        · exact q1
        · exact v1
      · rw [z0] at hk
        omega
      · show chOk (if j < N ∧ btP P.1 j then x else gA u 4 j)
        split
        · exact q1
        · exact (k1.2 j hj).1
  · refine ⟨.int (-100 - fI (sE n P.2).2), tC (uI u 11 0) (sE n P.2), uI (tM (tC (uI u 11 0) (sE n P.2)) (sE n P.2)) 20 0, ?_, ?_, ?_, rfl⟩
    · rw [cE, B103_29, if_neg q, if_pos rfl, gI_tC, if_pos rfl]
    · have := mE (gA u 4)
      rw [r4] at this
      have e := e22 (gA u 4)
      rw [r4] at e
      rw [this, B199_16, e, if_neg (by rw [fI_lt we hn]; exact q)]
    · simp only [Inv, invB, invG, invF, invT, invP, invL, invL1, invK, gI_uI, gI_uJ, gI_uA, gI_uB, gJ_uI, gJ_uJ, gJ_uA, gJ_uB, gA_uI, gA_uJ, gA_uA, gA_uB, gB_uI, gB_uJ, gB_uA, gB_uB, gI_tC, gI_tM, gJ_tC, gJ_tM, gA_tC, gA_tM, gB_tC, gB_tM] at *
      simp only [Nat.reduceEqDiff, reduceIte]
      refine ⟨⟨b1, b2, b3, b4, b5, b6, b7, b8, b9, b10⟩, ⟨g1, g2⟩, ⟨f1, f2⟩, ⟨trivial, ⟨by decide, by decide⟩, fun k hk => ?_⟩, ⟨p1, p2, p3⟩, hL, ⟨k1, k2, k3⟩⟩
      rw [z0] at hk
      omega
end PICK
