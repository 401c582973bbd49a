/-! reading THE TAPE: what the small readers do, on both sides (printed by wip/whole/ops/pp.py) -/
/-- a place and a FAULT -/
abbrev pS : Type := Nat × Option Nat
def fI : Option Nat → Int32
  | none => -1
  | some p => jI p
def tC (u : pv_U) (s : pS) : pv_U := uI (uI u 12 (jI s.1)) 13 (fI s.2)
def tM (u : pv_U) (s : pS) : pv_U := uI (uI u 21 (jI s.1)) 22 (fI s.2)
def wfS (n : Nat) (s : pS) : Prop := s.1 ≤ n ∧ ∀ p, s.2 = some p → p ≤ n
/-- THE TAPE, 0 behind its end -/
def tpe (u : pv_U) (r i : Nat) (T : Nat → Int32) (n : Nat) : Prop := n ≤ 120 ∧ gI u i = jI n ∧ (∀ k, k < n → gA u r k = T k ∧ 1 ≤ (T k).toInt ∧ (T k).toInt ≤ 127) ∧ ∀ k, n ≤ k → T k = 0
def flO : Option Nat → Nat → Option Nat
  | none, p => some p
  | some q, _ => some q
def fl (s : pS) (p : Nat) : pS := (s.1, flO s.2 p)
def adv (s : pS) : pS := (s.1 + 1, s.2)
def skB (T : Nat → Int32) (c : Int32) (s : pS) : Bool := decide (s.2 = none) && decide (T s.1 = c)
def skS (T : Nat → Int32) (c : Int32) (s : pS) : pS := if skB T c s = true then adv s else s
def nd (T : Nat → Int32) (c : Int32) (s : pS) : pS := if skB T c s = true then adv s else fl s s.1
def fgB (T : Nat → Int32) (a : Nat) : Bool := decide (48 ≤ (T a).toInt ∧ (T a).toInt ≤ 57)
def nmL (T : Nat → Int32) : Nat → Int32 → Nat → Int32 × Nat
  | 0, v, a => (v, a)
  | m + 1, v, a => if fgB T a = true then nmL T m (v * 10 + T a - 48) (a + 1) else (v, a)
def nmC (T : Nat → Int32) (k : Nat) (s : pS) : Int32 × pS := if s.2 = none ∧ fgB T s.1 = true then ((nmL T k 0 s.1).1, ((nmL T k 0 s.1).2, none)) else (0, fl s s.1)
def nmR (T : Nat → Int32) (k : Nat) (lo hi : Int32) (s : pS) : Int32 × pS := ((nmC T k s).1, if lo.toInt ≤ (nmC T k s).1.toInt ∧ (nmC T k s).1.toInt ≤ hi.toInt then (nmC T k s).2 else fl (nmC T k s).2 s.1)
section TAPE1
variable {L : Nat} {xs : Nat → Int32} {u : pv_U} {d k n p r i : Nat} {x y z c : Int32} {T : Nat → Int32} {s t : pS}
theorem gI_tC {j : Nat} : gI (tC u s) j = if j = 13 then fI s.2 else if j = 12 then jI s.1 else gI u j := by
  unfold tC
  rw [gI_uI, gI_uI]
theorem gI_tM {j : Nat} : gI (tM u s) j = if j = 22 then fI s.2 else if j = 21 then jI s.1 else gI u j := by
  unfold tM
  rw [gI_uI, gI_uI]
theorem gA_tC {q j : Nat} : gA (tC u s) q j = gA u q j := rfl
theorem gA_tM {q j : Nat} : gA (tM u s) q j = gA u q j := rfl
theorem gB_tC {q j : Nat} : gB (tC u s) q j = gB u q j := rfl
theorem gB_tM {q j : Nat} : gB (tM u s) q j = gB u q j := rfl
theorem gJ_tC {j : Nat} : gJ (tC u s) j = gJ u j := rfl
theorem gJ_tM {j : Nat} : gJ (tM u s) j = gJ u j := rfl
theorem fI_none (h : wfS n s) (hn : n ≤ 120) : fI s.2 = -1 ↔ s.2 = none := by
  obtain ⟨a, o⟩ := s
  cases o with
  | none => exact ⟨fun _ => rfl, fun _ => rfl⟩
  | some p =>
    have hp := h.2 p rfl
    refine ⟨fun q => ?_, fun q => nomatch q⟩
    have := congrArg Int32.toInt q
    rw [show fI (a, some p).2 = jI p from rfl, jI_toInt (by omega), show (-1 : Int32).toInt = -1 from rfl] at this
    omega
theorem fI_neg (h : wfS n s) (hn : n ≤ 120) : 0 ≤ fI s.2 ↔ ¬ s.2 = none := by
  obtain ⟨a, o⟩ := s
  cases o with
  | none => exact ⟨fun q => absurd (show (0 : Int32) ≤ -1 from q) (by decide), fun q => absurd rfl q⟩
  | some p =>
    have hp := h.2 p rfl
    refine ⟨fun q => nofun, fun q => ?_⟩
    rw [show fI (a, some p).2 = jI p from rfl, Int32.le_iff_toInt_le, jI_toInt (by omega), z0]
    omega
theorem fI_lt (h : wfS n s) (hn : n ≤ 120) : fI s.2 < 0 ↔ s.2 = none := by
  have := fI_neg h hn
  rw [← Int32.not_le]
  grind
theorem wf_fl (h : wfS n s) (hp : p ≤ n) : wfS n (fl s p) := by
  obtain ⟨a, o⟩ := s
  cases o with
  | none => exact ⟨h.1, fun q e => (Option.some.inj (show some p = some q from e)) ▸ hp⟩
  | some q => exact ⟨h.1, h.2⟩
theorem wf_fl0 (h : wfS n s) : wfS n (fl s s.1) := wf_fl h h.1
theorem fl_fl (h : ¬ s.2 = none) : fl s p = s := by
  obtain ⟨a, o⟩ := s
  cases o with
  | none => exact absurd rfl h
  | some q => rfl
theorem fl_idem {q : Nat} : fl (fl s p) q = fl s p := by
  obtain ⟨a, o⟩ := s
  cases o <;> rfl
theorem fl_none (h : s.2 = none) : fl s p = (s.1, some p) := by
  obtain ⟨a, o⟩ := s
  cases o with
  | none => rfl
  | some q => exact absurd h nofun
theorem T_lt (ht : tpe u r i T n) {a : Nat} (h : T a ≠ 0) : a < n := by
  by_cases q : a < n
  · exact q
  · exact absurd (ht.2.2.2 a (by omega)) h
theorem T_fg (ht : tpe u r i T n) {a : Nat} (h : fgB T a = true) : a < n := by
  refine T_lt ht (fun q => ?_)
  unfold fgB at h
  rw [q, z0] at h
  exact absurd h (by decide)
theorem T_sk (ht : tpe u r i T n) (hc : c ≠ 0) (h : skB T c s = true) : s.2 = none ∧ s.1 < n := by
  unfold skB at h
  rw [Bool.and_eq_true, decide_eq_true_eq, decide_eq_true_eq] at h
  exact ⟨h.1, T_lt ht (fun q => hc (h.2.symm.trans q))⟩
theorem wf_adv (h : wfS n s) (h1 : s.1 < n) : wfS n (adv s) := ⟨h1, h.2⟩
theorem wf_skS (ht : tpe u r i T n) (hc : c ≠ 0) (h : wfS n s) : wfS n (skS T c s) := by
  unfold skS
  by_cases q : skB T c s = true
  · rw [if_pos q]
    exact wf_adv h (T_sk ht hc q).2
  · rw [if_neg q]
    exact h
theorem wf_nd (ht : tpe u r i T n) (hc : c ≠ 0) (h : wfS n s) : wfS n (nd T c s) := by
  unfold nd
  by_cases q : skB T c s = true
  · rw [if_pos q]
    exact wf_adv h (T_sk ht hc q).2
  · rw [if_neg q]
    exact wf_fl0 h
theorem nmL_le (ht : tpe u r i T n) {m : Nat} {v : Int32} {a : Nat} (ha : a ≤ n) : (nmL T m v a).2 ≤ n ∧ a ≤ (nmL T m v a).2 := by
  induction m generalizing v a with
  | zero => exact ⟨ha, Nat.le_refl _⟩
  | succ m ih =>
    show (if fgB T a = true then nmL T m (v * 10 + T a - 48) (a + 1) else (v, a)).2 ≤ n ∧ a ≤ (if fgB T a = true then nmL T m (v * 10 + T a - 48) (a + 1) else (v, a)).2
    by_cases q : fgB T a = true
    · rw [if_pos q]
      have := ih (v := v * 10 + T a - 48) (a := a + 1) (T_fg ht q)
      omega
    · rw [if_neg q]
      exact ⟨ha, Nat.le_refl _⟩
theorem wf_nmC (ht : tpe u r i T n) (h : wfS n s) : wfS n (nmC T k s).2 := by
  unfold nmC
  by_cases q : s.2 = none ∧ fgB T s.1 = true
  · rw [if_pos q]
    exact ⟨(nmL_le ht h.1).1, fun p e => nomatch e⟩
  · rw [if_neg q]
    exact wf_fl0 h
theorem wf_nmR (ht : tpe u r i T n) (h : wfS n s) : wfS n (nmR T k x y s).2 := by
  unfold nmR
  have h1 := wf_nmC (k := k) ht h
  show wfS n (if x.toInt ≤ (nmC T k s).1.toInt ∧ (nmC T k s).1.toInt ≤ y.toInt then (nmC T k s).2 else fl (nmC T k s).2 s.1)
  split
  · exact h1
  · exact wf_fl h1 h.1
/-! the class -/
theorem adv_tC : uI (tC u s) 12 (gI (tC u s) 12 + 1) = tC u (adv s) := by
  have e12 : gI (tC u s) 12 = jI s.1 := by rw [gI_tC, if_neg (by decide), if_pos rfl]
  rw [e12, jI_succ]
  refine pv_ext (fun j => ?_) (fun _ => rfl) (fun _ _ => rfl) (fun _ _ => rfl)
  rw [gI_uI, gI_tC, gI_tC]
  show _ = if j = 13 then fI s.2 else if j = 12 then jI (s.1 + 1) else gI u j
  grind
theorem fl_tC : uI (tC u s) 13 (jI p) = tC u (s.1, some p) := by
  refine pv_ext (fun j => ?_) (fun _ => rfl) (fun _ _ => rfl) (fun _ _ => rfl)
  rw [gI_uI, gI_tC, gI_tC]
  show _ = if j = 13 then jI p else if j = 12 then jI s.1 else gI u j
  grind
theorem C_ahead (ht : tpe u 23 11 T n) (h : wfS n s) : RR (pv_X0 L xs) d 87 0 [some (.ref 44)] [] (enc (tC u s)) = some (some (.int (T s.1)), enc (tC u s)) := by
  obtain ⟨h1, h2, h4, h5⟩ := ht
  have hs := h.1
  rw [B87_0]
  simp only [gI_tC, Nat.reduceEqDiff, reduceIte, h2, gA_tC]
  by_cases q : n ≤ s.1
  · rw [if_pos (by rw [jI_le (by omega) (by omega)]; exact q), h5 _ q]
  · rw [if_neg (by rw [jI_le (by omega) (by omega)]; exact q), pv_ixn (by omega) (by decide), (h4 _ (by omega)).1]
theorem C_failed (h : wfS n s) (hn : n ≤ 120) : RR (pv_X0 L xs) d 83 0 [some (.ref 44)] [] (enc (tC u s)) = some (some (.int (if s.2 = none then 0 else 1)), enc (tC u s)) := by
  rw [B83_0]
  simp only [gI_tC, reduceIte, fI_none h hn]
  split <;> rfl
theorem C_failAt (h : wfS n s) (hn : n ≤ 120) : RR (pv_X0 L xs) (d + 1) 82 0 [some (.ref 44), some (.int (jI p))] [] (enc (tC u s)) = some (none, enc (tC u (fl s p))) := by
  rw [B82_0, C_failed h hn, pv_bd_some]
  simp only [Option.toList_some, List.cons_append, List.nil_append]
  rw [B82_4]
  by_cases q : s.2 = none
  · rw [if_pos q, if_pos rfl, fl_tC, fl_none q]
  · rw [if_neg q, if_neg (by decide), fl_fl q]
theorem C_skips (ht : tpe u 23 11 T n) (h : wfS n s) : RR (pv_X0 L xs) (d + 1) 89 0 [some (.ref 44), some (.int c)] [] (enc (tC u s)) = some (some (.int (if skB T c s = true then 1 else 0)), enc (tC u (skS T c s))) := by
  rw [B89_0, C_failed h ht.1, pv_bd_some]
  simp only [Option.toList_some, List.cons_append, List.nil_append]
  rw [B89_4]
  unfold skS skB
  by_cases q : s.2 = none
  · rw [if_pos q, if_pos rfl, C_ahead ht h, pv_bd_some]
    simp only [Option.toList_some, List.cons_append, List.nil_append]
    rw [B89_11]
    by_cases q2 : T s.1 = c
    · rw [if_pos q2, adv_tC]
      simp only [q, q2, decide_true, Bool.and_self, reduceIte]
    · rw [if_neg q2]
      simp only [q, q2, decide_true, decide_false, Bool.and_false, Bool.false_eq_true, reduceIte]
  · rw [if_neg q, if_neg (by decide)]
    simp only [q, decide_false, Bool.false_and, Bool.false_eq_true, reduceIte]
theorem C_need (ht : tpe u 23 11 T n) (hc : c ≠ 0) (h : wfS n s) : RR (pv_X0 L xs) (d + 2) 88 0 [some (.ref 44), some (.int c)] [] (enc (tC u s)) = some (none, enc (tC u (nd T c s))) := by
  rw [B88_0, C_skips ht h, pv_bd_some]
  simp only [Option.toList_some, List.cons_append, List.nil_append]
  rw [B88_5]
  unfold nd skS
  by_cases q : skB T c s = true
  · simp only [if_pos q, e10, reduceIte]
    exact B88_16
  · simp only [if_neg q, reduceIte]
    have e : gI (tC u s) 12 = jI s.1 := by rw [gI_tC, if_neg (by decide), if_pos rfl]
    rw [e, C_failAt h ht.1, pv_bd_some]
    exact B88_16
theorem C_fig (ht : tpe u 23 11 T n) (h : wfS n s) : RR (pv_X0 L xs) (d + 1) 86 0 [some (.ref 44)] [] (enc (tC u s)) = some (some (.int (if fgB T s.1 = true then 1 else 0)), enc (tC u s)) := by
  rw [B86_0, C_ahead ht h, pv_bd_some]
  simp only [Option.toList_some, List.cons_append, List.nil_append]
  rw [B86_4, C_ahead ht h, pv_bd_some]
  simp only [Option.toList_some, List.cons_append, List.nil_append, B86_13, Int32.lt_iff_toInt_lt, show (48 : Int32).toInt = 48 from rfl, show (57 : Int32).toInt = 57 from rfl, fgB, decide_eq_true_eq]
  grind
theorem C_numL (ht : tpe u 23 11 T n) {K m : Nat} (hK : K ≤ 4) {v : Int32} {a j : Nat} (hj : j + m = K) (ha : a ≤ n) : RR (pv_X0 L xs) (d + 2) 85 28 [some (.ref 44), some (.int (jI K)), some (.int v), some (.int (jI j))] [] (enc (tC u (a, none))) = some (some (.int (nmL T m v a).1), enc (tC u ((nmL T m v a).2, none))) := by
  induction m generalizing v a j with
  | zero =>
    have e : j = K := hj
    subst e
    rw [B85_28, if_pos jI_end]
    rfl
  | succ m ih =>
    have hw : wfS n (a, none) := ⟨ha, fun p e => nomatch e⟩
    rw [B85_28, if_neg (jI_run (by omega) (by omega)), C_fig ht hw, pv_bd_some]
    simp only [Option.toList_some, List.cons_append, List.nil_append]
    rw [B85_37, ite01]
    show _ = some (some (Value.int (if fgB T a = true then nmL T m (v * 10 + T a - 48) (a + 1) else (v, a)).1), enc (tC u ((if fgB T a = true then nmL T m (v * 10 + T a - 48) (a + 1) else (v, a)).2, none)))
    by_cases q : fgB T a = true
    · rw [if_pos q, if_pos q, C_ahead ht hw, pv_bd_some]
      simp only [Option.toList_some, List.cons_append, List.nil_append]
      rw [B85_48, adv_tC, jI_succ]
      exact ih (by omega) (T_fg ht q)
    · rw [if_neg q, if_neg q]
theorem C_number (ht : tpe u 23 11 T n) (h : wfS n s) (hk : k ≤ 4) : RR (pv_X0 L xs) (d + 2) 85 0 [some (.ref 44), some (.int (jI k)), none, none] [] (enc (tC u s)) = some (some (.int (nmC T k s).1), enc (tC u (nmC T k s).2)) := by
  have e : gI (tC u s) 12 = jI s.1 := by rw [gI_tC, if_neg (by decide), if_pos rfl]
  rw [B85_0, C_failed h ht.1, pv_bd_some]
  simp only [Option.toList_some, List.cons_append, List.nil_append]
  rw [B85_4]
  unfold nmC
  by_cases q : s.2 = none
  · rw [if_pos q, if_pos rfl, C_fig ht h, pv_bd_some]
    simp only [Option.toList_some, List.cons_append, List.nil_append]
    rw [B85_11, ite01]
    by_cases q2 : fgB T s.1 = true
    · rw [if_pos q2, if_pos ⟨q, q2⟩]
      have es : s = (s.1, none) := by rw [← q]
      have := C_numL (L := L) (xs := xs) (d := d) ht hk (v := 0) (Nat.zero_add k) h.1
      rw [← es] at this
      exact this
    · rw [if_neg q2, if_neg (fun r => q2 r.2), e, C_failAt h ht.1, pv_bd_some]
      exact B85_22
  · rw [if_neg q, if_neg (by decide), if_neg (fun r => q r.1), e, C_failAt h ht.1, pv_bd_some]
    exact B85_22
end TAPE1
