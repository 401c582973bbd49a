/-! WORDS, on both sides (printed by wip/whole/ops/p70.py and pp.py) -/
/-- WORD i stands from a to b -/
def mtB (T : Nat → Int32) (i a b : Nat) : Bool := decide (b = a + (pv_txt i).length) && !(anyN (fun k => !decide (T (a + k) = (pv_txt i).getD k 0)) (pv_txt i).length)
def ltB (T : Nat → Int32) (a : Nat) : Bool := decide (97 ≤ (T a).toInt ∧ (T a).toInt ≤ 122)
/-- where the letters end -/
def leE (T : Nat → Int32) : Nat → Nat → Nat
  | 0, a => a
  | m + 1, a => if ltB T a = true then leE T m (a + 1) else a
def wdC (T : Nat → Int32) (a b : Nat) : Int32 := if mtB T 0 a b = true then 0 else if mtB T 1 a b = true then 1 else if mtB T 2 a b = true then 2 else if mtB T 3 a b = true then 3 else if mtB T 4 a b = true then 4 else if mtB T 5 a b = true then 5 else if mtB T 6 a b = true then 6 else if mtB T 7 a b = true then 7 else if mtB T 8 a b = true then 8 else -1
def wdM (T : Nat → Int32) (a b : Nat) : Int32 := if mtB T 0 a b = true then 0 else if mtB T 1 a b = true then 1 else if mtB T 2 a b = true then 2 else if mtB T 3 a b = true then 3 else if mtB T 4 a b = true then 4 else if mtB T 5 a b = true then 5 else if mtB T 7 a b = true then 6 else if mtB T 6 a b = true then 7 else if mtB T 8 a b = true then 8 else -1
def wd (T : Nat → Int32) (s : pS) : Int32 × pS := if s.2 = none then (wdC T s.1 (leE T 120 s.1), (leE T 120 s.1, if wdC T s.1 (leE T 120 s.1) = -1 then some s.1 else none)) else (-1, s)
section WORD
variable {L : Nat} {xs : Nat → Int32} {u : pv_U} {d k n p r i : Nat} {x y z c : Int32} {T : Nat → Int32} {s t : pS}
theorem T_lt2 (ht : tpe u r i T n) {a : Nat} (h : ltB T a = true) : a < n := by
  refine T_lt ht (fun q => ?_)
  unfold ltB at h
  rw [q, z0] at h
  exact absurd h (by decide)
theorem leE_le (ht : tpe u r i T n) {m a : Nat} (ha : a ≤ n) : leE T m a ≤ n ∧ a ≤ leE T m a ∧ (n ≤ a + m → ltB T (leE T m a) = false) ∧ ∀ j, a ≤ j → j < leE T m a → ltB T j = true := by
  induction m generalizing a with
  | zero =>
    refine ⟨ha, Nat.le_refl _, fun h => ?_, fun j h1 h2 => absurd h2 (by show ¬ j < a; omega)⟩
    show ltB T a = false
    cases q : ltB T a with
    | false => rfl
    | true =>
      have := T_lt2 ht q
      omega
  | succ m ih =>
    have e : leE T (m + 1) a = if ltB T a = true then leE T m (a + 1) else a := rfl
    rw [e]
    by_cases q : ltB T a = true
    · rw [if_pos q]
      have := ih (a := a + 1) (T_lt2 ht q)
      refine ⟨this.1, by omega, fun h => this.2.2.1 (by omega), fun j h1 h2 => ?_⟩
      by_cases e : j = a
      · rw [e]; exact q
      · exact this.2.2.2 j (by omega) h2
    · rw [if_neg q]
      refine ⟨ha, Nat.le_refl _, fun _ => ?_, fun j h1 h2 => absurd h2 (by omega)⟩
      cases q2 : ltB T a with
      | false => rfl
      | true => exact absurd q2 q
theorem wf_wd (ht : tpe u r i T n) (h : wfS n s) : wfS n (wd T s).2 ∧ s.1 ≤ (wd T s).2.1 := by
  unfold wd
  have := leE_le ht (m := 120) h.1
  by_cases q : s.2 = none
  · rw [if_pos q]
    refine ⟨⟨this.1, fun p e => ?_⟩, this.2.1⟩
    have e' : (if wdC T s.1 (leE T 120 s.1) = -1 then some s.1 else none) = some p := e
    split at e'
    · exact (Option.some.inj e') ▸ h.1
    · exact nomatch e'
  · rw [if_neg q]
    exact ⟨h, Nat.le_refl _⟩
/-! the class -/
theorem C_isWord0 (ht : tpe u 23 11 T n) {a b : Nat} (hab : a ≤ b) (hb : b ≤ n) : RR (pv_X0 L xs) (d + 4) 100 0 [some (.ref 44), some (.int (jI a)), some (.ref 1000000), none] [] (enc (tC u (b, none))) = some (some (.int (if mtB T 0 a b = true then 1 else 0)), enc (tC u (b, none))) := by
  have hn := ht.1
  have el : (pv_txt 0).length = 4 := rfl
  have e : gI (tC u (b, none)) 12 = jI b := by rw [gI_tC, if_neg (by decide), if_pos rfl]
  unfold mtB
  rw [B100a_0, e, jI_sub hab, el]
  by_cases q : b = a + 4
  case neg =>
    rw [if_neg (show ¬ jI (b - a) = 4 by show ¬ jI (b - a) = jI 4; rw [jI_eq (by omega) (by omega)]; omega), decide_eq_false q, Bool.false_and, if_neg (by decide)]
  rw [if_pos (show jI (b - a) = 4 by show jI (b - a) = jI 4; rw [jI_eq (by omega) (by omega)]; omega), decide_eq_true q, Bool.true_and]
  refine (pv_find (R := fun k => RR (pv_X0 L xs) (d + 4) 100 17 [some (.ref 44), some (.int (jI a)), some (.ref 1000000), some (.int (jI k))] [] (enc (tC u (b, none)))) (p := fun k => !decide (T (a + k) = (pv_txt 0).getD k 0)) (out := some (some (.int 0), enc (tC u (b, none)))) (N := 4) (fun k hk => ?_)).trans ?_
  · show RR (pv_X0 L xs) (d + 4) 100 17 _ _ _ = _
    rw [B100a_17, if_neg (run_lit (c := 4) (N := 4) rfl hk (by omega)), jI_add, pv_ixn (by omega) (by decide), pv_ixn hk (by decide), gA_tC, (ht.2.2.1 (a + k) (by omega)).1, jI_succ]
    by_cases q2 : T (a + k) = (pv_txt 0).getD k 0
    · rw [if_pos q2, decide_eq_true q2, if_neg (by decide)]
    · rw [if_neg q2, decide_eq_false q2, if_pos (by decide)]
  · show (if _ then _ else RR (pv_X0 L xs) (d + 4) 100 17 _ _ _) = _
    rw [B100a_17, if_pos (end_lit (c := 4) (N := 4) rfl)]
    generalize anyN (fun k => !decide (T (a + k) = (pv_txt 0).getD k 0)) 4 = Q
    cases Q <;> rfl
theorem C_isWord1 (ht : tpe u 23 11 T n) {a b : Nat} (hab : a ≤ b) (hb : b ≤ n) : RR (pv_X0 L xs) (d + 4) 100 0 [some (.ref 44), some (.int (jI a)), some (.ref 1000001), none] [] (enc (tC u (b, none))) = some (some (.int (if mtB T 1 a b = true then 1 else 0)), enc (tC u (b, none))) := by
  have hn := ht.1
  have el : (pv_txt 1).length = 4 := rfl
  have e : gI (tC u (b, none)) 12 = jI b := by rw [gI_tC, if_neg (by decide), if_pos rfl]
  unfold mtB
  rw [B100b_0, e, jI_sub hab, el]
  by_cases q : b = a + 4
  case neg =>
    rw [if_neg (show ¬ jI (b - a) = 4 by show ¬ jI (b - a) = jI 4; rw [jI_eq (by omega) (by omega)]; omega), decide_eq_false q, Bool.false_and, if_neg (by decide)]
  rw [if_pos (show jI (b - a) = 4 by show jI (b - a) = jI 4; rw [jI_eq (by omega) (by omega)]; omega), decide_eq_true q, Bool.true_and]
  refine (pv_find (R := fun k => RR (pv_X0 L xs) (d + 4) 100 17 [some (.ref 44), some (.int (jI a)), some (.ref 1000001), some (.int (jI k))] [] (enc (tC u (b, none)))) (p := fun k => !decide (T (a + k) = (pv_txt 1).getD k 0)) (out := some (some (.int 0), enc (tC u (b, none)))) (N := 4) (fun k hk => ?_)).trans ?_
  · show RR (pv_X0 L xs) (d + 4) 100 17 _ _ _ = _
    rw [B100b_17, if_neg (run_lit (c := 4) (N := 4) rfl hk (by omega)), jI_add, pv_ixn (by omega) (by decide), pv_ixn hk (by decide), gA_tC, (ht.2.2.1 (a + k) (by omega)).1, jI_succ]
    by_cases q2 : T (a + k) = (pv_txt 1).getD k 0
    · rw [if_pos q2, decide_eq_true q2, if_neg (by decide)]
    · rw [if_neg q2, decide_eq_false q2, if_pos (by decide)]
  · show (if _ then _ else RR (pv_X0 L xs) (d + 4) 100 17 _ _ _) = _
    rw [B100b_17, if_pos (end_lit (c := 4) (N := 4) rfl)]
    generalize anyN (fun k => !decide (T (a + k) = (pv_txt 1).getD k 0)) 4 = Q
    cases Q <;> rfl
theorem C_isWord2 (ht : tpe u 23 11 T n) {a b : Nat} (hab : a ≤ b) (hb : b ≤ n) : RR (pv_X0 L xs) (d + 4) 100 0 [some (.ref 44), some (.int (jI a)), some (.ref 1000002), none] [] (enc (tC u (b, none))) = some (some (.int (if mtB T 2 a b = true then 1 else 0)), enc (tC u (b, none))) := by
  have hn := ht.1
  have el : (pv_txt 2).length = 3 := rfl
  have e : gI (tC u (b, none)) 12 = jI b := by rw [gI_tC, if_neg (by decide), if_pos rfl]
  unfold mtB
  rw [B100c_0, e, jI_sub hab, el]
  by_cases q : b = a + 3
  case neg =>
    rw [if_neg (show ¬ jI (b - a) = 3 by show ¬ jI (b - a) = jI 3; rw [jI_eq (by omega) (by omega)]; omega), decide_eq_false q, Bool.false_and, if_neg (by decide)]
  rw [if_pos (show jI (b - a) = 3 by show jI (b - a) = jI 3; rw [jI_eq (by omega) (by omega)]; omega), decide_eq_true q, Bool.true_and]
  refine (pv_find (R := fun k => RR (pv_X0 L xs) (d + 4) 100 17 [some (.ref 44), some (.int (jI a)), some (.ref 1000002), some (.int (jI k))] [] (enc (tC u (b, none)))) (p := fun k => !decide (T (a + k) = (pv_txt 2).getD k 0)) (out := some (some (.int 0), enc (tC u (b, none)))) (N := 3) (fun k hk => ?_)).trans ?_
  · show RR (pv_X0 L xs) (d + 4) 100 17 _ _ _ = _
    rw [B100c_17, if_neg (run_lit (c := 3) (N := 3) rfl hk (by omega)), jI_add, pv_ixn (by omega) (by decide), pv_ixn hk (by decide), gA_tC, (ht.2.2.1 (a + k) (by omega)).1, jI_succ]
    by_cases q2 : T (a + k) = (pv_txt 2).getD k 0
    · rw [if_pos q2, decide_eq_true q2, if_neg (by decide)]
    · rw [if_neg q2, decide_eq_false q2, if_pos (by decide)]
  · show (if _ then _ else RR (pv_X0 L xs) (d + 4) 100 17 _ _ _) = _
    rw [B100c_17, if_pos (end_lit (c := 3) (N := 3) rfl)]
    generalize anyN (fun k => !decide (T (a + k) = (pv_txt 2).getD k 0)) 3 = Q
    cases Q <;> rfl
theorem C_isWord3 (ht : tpe u 23 11 T n) {a b : Nat} (hab : a ≤ b) (hb : b ≤ n) : RR (pv_X0 L xs) (d + 4) 100 0 [some (.ref 44), some (.int (jI a)), some (.ref 1000003), none] [] (enc (tC u (b, none))) = some (some (.int (if mtB T 3 a b = true then 1 else 0)), enc (tC u (b, none))) := by
  have hn := ht.1
  have el : (pv_txt 3).length = 7 := rfl
  have e : gI (tC u (b, none)) 12 = jI b := by rw [gI_tC, if_neg (by decide), if_pos rfl]
  unfold mtB
  rw [B100d_0, e, jI_sub hab, el]
  by_cases q : b = a + 7
  case neg =>
    rw [if_neg (show ¬ jI (b - a) = 7 by show ¬ jI (b - a) = jI 7; rw [jI_eq (by omega) (by omega)]; omega), decide_eq_false q, Bool.false_and, if_neg (by decide)]
  rw [if_pos (show jI (b - a) = 7 by show jI (b - a) = jI 7; rw [jI_eq (by omega) (by omega)]; omega), decide_eq_true q, Bool.true_and]
  refine (pv_find (R := fun k => RR (pv_X0 L xs) (d + 4) 100 17 [some (.ref 44), some (.int (jI a)), some (.ref 1000003), some (.int (jI k))] [] (enc (tC u (b, none)))) (p := fun k => !decide (T (a + k) = (pv_txt 3).getD k 0)) (out := some (some (.int 0), enc (tC u (b, none)))) (N := 7) (fun k hk => ?_)).trans ?_
  · show RR (pv_X0 L xs) (d + 4) 100 17 _ _ _ = _
    rw [B100d_17, if_neg (run_lit (c := 7) (N := 7) rfl hk (by omega)), jI_add, pv_ixn (by omega) (by decide), pv_ixn hk (by decide), gA_tC, (ht.2.2.1 (a + k) (by omega)).1, jI_succ]
    by_cases q2 : T (a + k) = (pv_txt 3).getD k 0
    · rw [if_pos q2, decide_eq_true q2, if_neg (by decide)]
    · rw [if_neg q2, decide_eq_false q2, if_pos (by decide)]
  · show (if _ then _ else RR (pv_X0 L xs) (d + 4) 100 17 _ _ _) = _
    rw [B100d_17, if_pos (end_lit (c := 7) (N := 7) rfl)]
    generalize anyN (fun k => !decide (T (a + k) = (pv_txt 3).getD k 0)) 7 = Q
    cases Q <;> rfl
theorem C_isWord4 (ht : tpe u 23 11 T n) {a b : Nat} (hab : a ≤ b) (hb : b ≤ n) : RR (pv_X0 L xs) (d + 4) 100 0 [some (.ref 44), some (.int (jI a)), some (.ref 1000004), none] [] (enc (tC u (b, none))) = some (some (.int (if mtB T 4 a b = true then 1 else 0)), enc (tC u (b, none))) := by
  have hn := ht.1
  have el : (pv_txt 4).length = 3 := rfl
  have e : gI (tC u (b, none)) 12 = jI b := by rw [gI_tC, if_neg (by decide), if_pos rfl]
  unfold mtB
  rw [B100e_0, e, jI_sub hab, el]
  by_cases q : b = a + 3
  case neg =>
    rw [if_neg (show ¬ jI (b - a) = 3 by show ¬ jI (b - a) = jI 3; rw [jI_eq (by omega) (by omega)]; omega), decide_eq_false q, Bool.false_and, if_neg (by decide)]
  rw [if_pos (show jI (b - a) = 3 by show jI (b - a) = jI 3; rw [jI_eq (by omega) (by omega)]; omega), decide_eq_true q, Bool.true_and]
  refine (pv_find (R := fun k => RR (pv_X0 L xs) (d + 4) 100 17 [some (.ref 44), some (.int (jI a)), some (.ref 1000004), some (.int (jI k))] [] (enc (tC u (b, none)))) (p := fun k => !decide (T (a + k) = (pv_txt 4).getD k 0)) (out := some (some (.int 0), enc (tC u (b, none)))) (N := 3) (fun k hk => ?_)).trans ?_
  · show RR (pv_X0 L xs) (d + 4) 100 17 _ _ _ = _
    rw [B100e_17, if_neg (run_lit (c := 3) (N := 3) rfl hk (by omega)), jI_add, pv_ixn (by omega) (by decide), pv_ixn hk (by decide), gA_tC, (ht.2.2.1 (a + k) (by omega)).1, jI_succ]
    by_cases q2 : T (a + k) = (pv_txt 4).getD k 0
    · rw [if_pos q2, decide_eq_true q2, if_neg (by decide)]
    · rw [if_neg q2, decide_eq_false q2, if_pos (by decide)]
  · show (if _ then _ else RR (pv_X0 L xs) (d + 4) 100 17 _ _ _) = _
    rw [B100e_17, if_pos (end_lit (c := 3) (N := 3) rfl)]
    generalize anyN (fun k => !decide (T (a + k) = (pv_txt 4).getD k 0)) 3 = Q
    cases Q <;> rfl
theorem C_isWord5 (ht : tpe u 23 11 T n) {a b : Nat} (hab : a ≤ b) (hb : b ≤ n) : RR (pv_X0 L xs) (d + 4) 100 0 [some (.ref 44), some (.int (jI a)), some (.ref 1000005), none] [] (enc (tC u (b, none))) = some (some (.int (if mtB T 5 a b = true then 1 else 0)), enc (tC u (b, none))) := by
  have hn := ht.1
  have el : (pv_txt 5).length = 6 := rfl
  have e : gI (tC u (b, none)) 12 = jI b := by rw [gI_tC, if_neg (by decide), if_pos rfl]
  unfold mtB
  rw [B100f_0, e, jI_sub hab, el]
  by_cases q : b = a + 6
  case neg =>
    rw [if_neg (show ¬ jI (b - a) = 6 by show ¬ jI (b - a) = jI 6; rw [jI_eq (by omega) (by omega)]; omega), decide_eq_false q, Bool.false_and, if_neg (by decide)]
  rw [if_pos (show jI (b - a) = 6 by show jI (b - a) = jI 6; rw [jI_eq (by omega) (by omega)]; omega), decide_eq_true q, Bool.true_and]
  refine (pv_find (R := fun k => RR (pv_X0 L xs) (d + 4) 100 17 [some (.ref 44), some (.int (jI a)), some (.ref 1000005), some (.int (jI k))] [] (enc (tC u (b, none)))) (p := fun k => !decide (T (a + k) = (pv_txt 5).getD k 0)) (out := some (some (.int 0), enc (tC u (b, none)))) (N := 6) (fun k hk => ?_)).trans ?_
  · show RR (pv_X0 L xs) (d + 4) 100 17 _ _ _ = _
    rw [B100f_17, if_neg (run_lit (c := 6) (N := 6) rfl hk (by omega)), jI_add, pv_ixn (by omega) (by decide), pv_ixn hk (by decide), gA_tC, (ht.2.2.1 (a + k) (by omega)).1, jI_succ]
    by_cases q2 : T (a + k) = (pv_txt 5).getD k 0
    · rw [if_pos q2, decide_eq_true q2, if_neg (by decide)]
    · rw [if_neg q2, decide_eq_false q2, if_pos (by decide)]
  · show (if _ then _ else RR (pv_X0 L xs) (d + 4) 100 17 _ _ _) = _
    rw [B100f_17, if_pos (end_lit (c := 6) (N := 6) rfl)]
    generalize anyN (fun k => !decide (T (a + k) = (pv_txt 5).getD k 0)) 6 = Q
    cases Q <;> rfl
theorem C_isWord6 (ht : tpe u 23 11 T n) {a b : Nat} (hab : a ≤ b) (hb : b ≤ n) : RR (pv_X0 L xs) (d + 4) 100 0 [some (.ref 44), some (.int (jI a)), some (.ref 1000006), none] [] (enc (tC u (b, none))) = some (some (.int (if mtB T 6 a b = true then 1 else 0)), enc (tC u (b, none))) := by
  have hn := ht.1
  have el : (pv_txt 6).length = 4 := rfl
  have e : gI (tC u (b, none)) 12 = jI b := by rw [gI_tC, if_neg (by decide), if_pos rfl]
  unfold mtB
  rw [B100g_0, e, jI_sub hab, el]
  by_cases q : b = a + 4
  case neg =>
    rw [if_neg (show ¬ jI (b - a) = 4 by show ¬ jI (b - a) = jI 4; rw [jI_eq (by omega) (by omega)]; omega), decide_eq_false q, Bool.false_and, if_neg (by decide)]
  rw [if_pos (show jI (b - a) = 4 by show jI (b - a) = jI 4; rw [jI_eq (by omega) (by omega)]; omega), decide_eq_true q, Bool.true_and]
  refine (pv_find (R := fun k => RR (pv_X0 L xs) (d + 4) 100 17 [some (.ref 44), some (.int (jI a)), some (.ref 1000006), some (.int (jI k))] [] (enc (tC u (b, none)))) (p := fun k => !decide (T (a + k) = (pv_txt 6).getD k 0)) (out := some (some (.int 0), enc (tC u (b, none)))) (N := 4) (fun k hk => ?_)).trans ?_
  · show RR (pv_X0 L xs) (d + 4) 100 17 _ _ _ = _
    rw [B100g_17, if_neg (run_lit (c := 4) (N := 4) rfl hk (by omega)), jI_add, pv_ixn (by omega) (by decide), pv_ixn hk (by decide), gA_tC, (ht.2.2.1 (a + k) (by omega)).1, jI_succ]
    by_cases q2 : T (a + k) = (pv_txt 6).getD k 0
    · rw [if_pos q2, decide_eq_true q2, if_neg (by decide)]
    · rw [if_neg q2, decide_eq_false q2, if_pos (by decide)]
  · show (if _ then _ else RR (pv_X0 L xs) (d + 4) 100 17 _ _ _) = _
    rw [B100g_17, if_pos (end_lit (c := 4) (N := 4) rfl)]
    generalize anyN (fun k => !decide (T (a + k) = (pv_txt 6).getD k 0)) 4 = Q
    cases Q <;> rfl
theorem C_isWord7 (ht : tpe u 23 11 T n) {a b : Nat} (hab : a ≤ b) (hb : b ≤ n) : RR (pv_X0 L xs) (d + 4) 100 0 [some (.ref 44), some (.int (jI a)), some (.ref 1000007), none] [] (enc (tC u (b, none))) = some (some (.int (if mtB T 7 a b = true then 1 else 0)), enc (tC u (b, none))) := by
  have hn := ht.1
  have el : (pv_txt 7).length = 6 := rfl
  have e : gI (tC u (b, none)) 12 = jI b := by rw [gI_tC, if_neg (by decide), if_pos rfl]
  unfold mtB
  rw [B100h_0, e, jI_sub hab, el]
  by_cases q : b = a + 6
  case neg =>
    rw [if_neg (show ¬ jI (b - a) = 6 by show ¬ jI (b - a) = jI 6; rw [jI_eq (by omega) (by omega)]; omega), decide_eq_false q, Bool.false_and, if_neg (by decide)]
  rw [if_pos (show jI (b - a) = 6 by show jI (b - a) = jI 6; rw [jI_eq (by omega) (by omega)]; omega), decide_eq_true q, Bool.true_and]
  refine (pv_find (R := fun k => RR (pv_X0 L xs) (d + 4) 100 17 [some (.ref 44), some (.int (jI a)), some (.ref 1000007), some (.int (jI k))] [] (enc (tC u (b, none)))) (p := fun k => !decide (T (a + k) = (pv_txt 7).getD k 0)) (out := some (some (.int 0), enc (tC u (b, none)))) (N := 6) (fun k hk => ?_)).trans ?_
  · show RR (pv_X0 L xs) (d + 4) 100 17 _ _ _ = _
    rw [B100h_17, if_neg (run_lit (c := 6) (N := 6) rfl hk (by omega)), jI_add, pv_ixn (by omega) (by decide), pv_ixn hk (by decide), gA_tC, (ht.2.2.1 (a + k) (by omega)).1, jI_succ]
    by_cases q2 : T (a + k) = (pv_txt 7).getD k 0
    · rw [if_pos q2, decide_eq_true q2, if_neg (by decide)]
    · rw [if_neg q2, decide_eq_false q2, if_pos (by decide)]
  · show (if _ then _ else RR (pv_X0 L xs) (d + 4) 100 17 _ _ _) = _
    rw [B100h_17, if_pos (end_lit (c := 6) (N := 6) rfl)]
    generalize anyN (fun k => !decide (T (a + k) = (pv_txt 7).getD k 0)) 6 = Q
    cases Q <;> rfl
theorem C_isWord8 (ht : tpe u 23 11 T n) {a b : Nat} (hab : a ≤ b) (hb : b ≤ n) : RR (pv_X0 L xs) (d + 4) 100 0 [some (.ref 44), some (.int (jI a)), some (.ref 1000008), none] [] (enc (tC u (b, none))) = some (some (.int (if mtB T 8 a b = true then 1 else 0)), enc (tC u (b, none))) := by
  have hn := ht.1
  have el : (pv_txt 8).length = 3 := rfl
  have e : gI (tC u (b, none)) 12 = jI b := by rw [gI_tC, if_neg (by decide), if_pos rfl]
  unfold mtB
  rw [B100i_0, e, jI_sub hab, el]
  by_cases q : b = a + 3
  case neg =>
    rw [if_neg (show ¬ jI (b - a) = 3 by show ¬ jI (b - a) = jI 3; rw [jI_eq (by omega) (by omega)]; omega), decide_eq_false q, Bool.false_and, if_neg (by decide)]
  rw [if_pos (show jI (b - a) = 3 by show jI (b - a) = jI 3; rw [jI_eq (by omega) (by omega)]; omega), decide_eq_true q, Bool.true_and]
  refine (pv_find (R := fun k => RR (pv_X0 L xs) (d + 4) 100 17 [some (.ref 44), some (.int (jI a)), some (.ref 1000008), some (.int (jI k))] [] (enc (tC u (b, none)))) (p := fun k => !decide (T (a + k) = (pv_txt 8).getD k 0)) (out := some (some (.int 0), enc (tC u (b, none)))) (N := 3) (fun k hk => ?_)).trans ?_
  · show RR (pv_X0 L xs) (d + 4) 100 17 _ _ _ = _
    rw [B100i_17, if_neg (run_lit (c := 3) (N := 3) rfl hk (by omega)), jI_add, pv_ixn (by omega) (by decide), pv_ixn hk (by decide), gA_tC, (ht.2.2.1 (a + k) (by omega)).1, jI_succ]
    by_cases q2 : T (a + k) = (pv_txt 8).getD k 0
    · rw [if_pos q2, decide_eq_true q2, if_neg (by decide)]
    · rw [if_neg q2, decide_eq_false q2, if_pos (by decide)]
  · show (if _ then _ else RR (pv_X0 L xs) (d + 4) 100 17 _ _ _) = _
    rw [B100i_17, if_pos (end_lit (c := 3) (N := 3) rfl)]
    generalize anyN (fun k => !decide (T (a + k) = (pv_txt 8).getD k 0)) 3 = Q
    cases Q <;> rfl
theorem C_wordFrom (ht : tpe u 23 11 T n) {a b : Nat} (hab : a ≤ b) (hb : b ≤ n) : RR (pv_X0 L xs) (d + 5) 99 0 [some (.ref 44), some (.int (jI a))] [] (enc (tC u (b, none))) = some (some (.int (wdC T a b)), enc (tC u (b, none))) := by
  unfold wdC
  rw [B99_0, C_isWord0 ht hab hb, pv_bd_some]
  simp only [Option.toList_some, List.cons_append, List.nil_append]
  rw [B99_7, ite01]
  split
  · rfl
  rw [C_isWord1 ht hab hb, pv_bd_some]
  simp only [Option.toList_some, List.cons_append, List.nil_append]
  rw [B99_19, ite01]
  split
  · rfl
  rw [C_isWord2 ht hab hb, pv_bd_some]
  simp only [Option.toList_some, List.cons_append, List.nil_append]
  rw [B99_31, ite01]
  split
  · rfl
  rw [C_isWord3 ht hab hb, pv_bd_some]
  simp only [Option.toList_some, List.cons_append, List.nil_append]
  rw [B99_43, ite01]
  split
  · rfl
  rw [C_isWord4 ht hab hb, pv_bd_some]
  simp only [Option.toList_some, List.cons_append, List.nil_append]
  rw [B99_55, ite01]
  split
  · rfl
  rw [C_isWord5 ht hab hb, pv_bd_some]
  simp only [Option.toList_some, List.cons_append, List.nil_append]
  rw [B99_67, ite01]
  split
  · rfl
  rw [C_isWord6 ht hab hb, pv_bd_some]
  simp only [Option.toList_some, List.cons_append, List.nil_append]
  rw [B99_79, ite01]
  split
  · rfl
  rw [C_isWord7 ht hab hb, pv_bd_some]
  simp only [Option.toList_some, List.cons_append, List.nil_append]
  rw [B99_92, ite01]
  split
  · rfl
  rw [C_isWord8 ht hab hb, pv_bd_some]
  simp only [Option.toList_some, List.cons_append, List.nil_append]
  rw [B99_105, ite01]
  split
  · rfl
  · rfl
theorem C_wordL (ht : tpe u 23 11 T n) {m j a b : Nat} (hj : j + m = 120) (hab : a ≤ b) (hb : b ≤ n) : RR (pv_X0 L xs) (d + 6) 98 16 [some (.ref 44), some (.int (jI a)), some (.int (jI j))] [] (enc (tC u (b, none))) = (pv_bd (RR (pv_X0 L xs) (d + 5) 99 0 [some (.ref 44), some (.int (jI a))] [] (enc (tC u (leE T m b, none)))) fun v w => RR (pv_X0 L xs) (d + 6) 98 61 [some (.ref 44), some (.int (jI a)), some (.int (jI (j + (leE T m b - b))))] (v.toList ++ []) w) := by
  induction m generalizing j b with
  | zero =>
    rw [B98_16, if_pos (by show jI 120 ≤ jI j; rw [jI_le (by omega) (by omega)]; omega)]
    show _ = (pv_bd (RR (pv_X0 L xs) (d + 5) 99 0 [some (.ref 44), some (.int (jI a))] [] (enc (tC u (b, none)))) fun v w => RR (pv_X0 L xs) (d + 6) 98 61 [some (.ref 44), some (.int (jI a)), some (.int (jI (j + (b - b))))] (v.toList ++ []) w)
    rw [Nat.sub_self]
    rfl
  | succ m ih =>
    have hw : wfS n (b, none) := ⟨hb, fun p e => nomatch e⟩
    have e : leE T (m + 1) b = if ltB T b = true then leE T m (b + 1) else b := rfl
    rw [B98_16, if_neg (by show ¬ jI 120 ≤ jI j; rw [jI_le (by omega) (by omega)]; omega), C_ahead ht hw, pv_bd_some]
    simp only [Option.toList_some, List.cons_append, List.nil_append]
    have l97 : T b < 97 ↔ (T b).toInt < 97 := Int32.lt_iff_toInt_lt
    have l122 : 122 < T b ↔ 122 < (T b).toInt := Int32.lt_iff_toInt_lt
    rw [B98_26, e]
    by_cases q : ltB T b = true
    · have hbn := T_lt2 ht q
      have q' := q
      unfold ltB at q'
      rw [decide_eq_true_eq] at q'
      rw [if_pos q, if_neg (show ¬ T b < 97 by rw [l97]; omega), C_ahead ht hw, pv_bd_some]
      simp only [Option.toList_some, List.cons_append, List.nil_append]
      rw [B98_35, if_neg (show ¬ 122 < T b by rw [l122]; omega), adv_tC, jI_succ]
      have hl := (leE_le ht (m := m) (a := b + 1) hbn).2.1
      have := ih (j := j + 1) (b := b + 1) (by omega) (by omega) hbn
      rw [show j + 1 + (leE T m (b + 1) - (b + 1)) = j + (leE T m (b + 1) - b) by omega] at this
      exact this
    · have q' := q
      unfold ltB at q'
      rw [decide_eq_true_eq] at q'
      rw [if_neg q, Nat.sub_self]
      by_cases q2 : (T b).toInt < 97
      · rw [if_pos (l97.mpr q2)]
        rfl
      · rw [if_neg (fun r => q2 (l97.mp r)), C_ahead ht hw, pv_bd_some]
        simp only [Option.toList_some, List.cons_append, List.nil_append]
        rw [B98_35, if_pos (show 122 < T b by rw [l122]; omega)]
        rfl
theorem C_word (ht : tpe u 23 11 T n) (h : wfS n s) : RR (pv_X0 L xs) (d + 6) 98 0 [some (.ref 44), none, none] [] (enc (tC u s)) = some (some (.int (wd T s).1), enc (tC u (wd T s).2)) := by
  have e : gI (tC u s) 12 = jI s.1 := by rw [gI_tC, if_neg (by decide), if_pos rfl]
  have hn := ht.1
  rw [B98_0, C_failed h hn, pv_bd_some]
  simp only [Option.toList_some, List.cons_append, List.nil_append]
  rw [B98_4, e]
  unfold wd
  by_cases q : s.2 = none
  case neg => rw [if_neg q, if_neg (by decide), if_neg q]
  have es : s = (s.1, none) := by rw [← q]
  have hl := leE_le ht (m := 120) h.1
  have wl := C_wordL (L := L) (xs := xs) (d := d) ht (m := 120) (j := 0) (a := s.1) (b := s.1) (by omega) (Nat.le_refl _) h.1
  rw [← es, C_wordFrom ht hl.2.1 hl.1, pv_bd_some] at wl
  simp only [Option.toList_some, List.cons_append, List.nil_append] at wl
  rw [if_pos q, if_pos rfl, if_pos q]
  refine wl.trans ?_
  rw [B98_61]
  have hw : wfS n (leE T 120 s.1, none) := ⟨hl.1, fun p e => nomatch e⟩
  by_cases q2 : wdC T s.1 (leE T 120 s.1) = -1
  · rw [if_pos q2, if_pos q2, C_failAt hw hn, pv_bd_some]
    exact B98_72
  · rw [if_neg q2, if_neg q2]
    exact B98_72
/-! the reference -/
def swN (w : Nat) : Nat := if w = 6 then 7 else if w = 7 then 6 else w
theorem txt_row : ∀ w, w < 9 → ∀ k, k < 7 → (pv_txt 9).getD (7 * w + k) 0 = if k < (pv_txt (swN w)).length then (pv_txt (swN w)).getD k 0 else 32 := by decide +kernel
theorem txt_len : ∀ w, w < 9 → 1 ≤ (pv_txt (swN w)).length ∧ (pv_txt (swN w)).length ≤ 7 ∧ ∀ k, k < (pv_txt (swN w)).length → (pv_txt (swN w)).getD k 0 ≠ 32 := by decide +kernel
/-- k letters from j on are the WORD's in the reference's row -/
def nmB (T : Nat → Int32) (w a b : Nat) : Nat → Nat → Bool
  | 0, _ => true
  | m + 1, k => decide ((pv_txt 9).getD (7 * w + k) 0 = if a + k < b then T (a + k) else 32) && nmB T w a b m (k + 1)
theorem nmB_all {w a b m k : Nat} : nmB T w a b m k = true ↔ ∀ j, k ≤ j → j < k + m → (pv_txt 9).getD (7 * w + j) 0 = if a + j < b then T (a + j) else 32 := by
  induction m generalizing k with
  | zero => exact ⟨fun _ j h1 h2 => absurd h2 (by omega), fun _ => rfl⟩
  | succ m ih =>
    show (decide ((pv_txt 9).getD (7 * w + k) 0 = if a + k < b then T (a + k) else 32) && nmB T w a b m (k + 1)) = true ↔ _
    rw [Bool.and_eq_true, decide_eq_true_eq, ih]
    constructor
    · rintro ⟨h1, h2⟩ j hj1 hj2
      by_cases e : j = k
      · rw [e]; exact h1
      · exact h2 j (by omega) (by omega)
    · intro h
      exact ⟨h k (Nat.le_refl _) (by omega), fun j h1 h2 => h j (by omega) (by omega)⟩
theorem mtB_iff {i a b : Nat} : mtB T i a b = true ↔ b = a + (pv_txt i).length ∧ ∀ k, k < (pv_txt i).length → T (a + k) = (pv_txt i).getD k 0 := by
  unfold mtB
  rw [Bool.and_eq_true, decide_eq_true_eq, Bool.not_eq_true', ← Bool.not_eq_true, anyN_iff]
  constructor
  · rintro ⟨h1, h2⟩
    refine ⟨h1, fun k hk => ?_⟩
    by_cases q : T (a + k) = (pv_txt i).getD k 0
    · exact q
    · exact absurd ⟨k, hk, by rw [decide_eq_false q]; rfl⟩ h2
  · rintro ⟨h1, h2⟩
    refine ⟨h1, ?_⟩
    rintro ⟨k, hk, q⟩
    rw [decide_eq_true (h2 k hk)] at q
    exact absurd q (by decide)
theorem nmB_mt {w a b : Nat} (hw : w < 9) (hl : ∀ j, a ≤ j → j < b → ltB T j = true) (hab : a ≤ b) : (a < b ∧ b - a ≤ 7 ∧ nmB T w a b 7 0 = true) ↔ mtB T (swN w) a b = true := by
  rw [nmB_all, mtB_iff]
  obtain ⟨l1, l2, l3⟩ := txt_len w hw
  have row := txt_row w hw
  have no32 : ∀ j, a ≤ j → j < b → T j ≠ 32 := fun j h1 h2 e => by
    have := hl j h1 h2
    unfold ltB at this
    rw [e] at this
    exact absurd this (by decide)
  generalize (pv_txt (swN w)).length = l at *
  constructor
  · rintro ⟨h1, h2, h3⟩
    have hb : b = a + l := by
      by_cases q : b = a + l
      · exact q
      exfalso
      by_cases q2 : b - a < l
      · have e := h3 (b - a) (Nat.zero_le _) (by omega)
        rw [row _ (by omega), if_pos q2, if_neg (by omega)] at e
        exact l3 _ q2 e
      · have e := h3 l (Nat.zero_le _) (by omega)
        rw [row _ (by omega), if_neg (by omega), if_pos (by omega)] at e
        exact no32 _ (by omega) (by omega) e.symm
    refine ⟨hb, fun k hk => ?_⟩
    have e := h3 k (Nat.zero_le _) (by omega)
    rw [row _ (by omega), if_pos hk, if_pos (by omega)] at e
    exact e.symm
  · rintro ⟨h1, h2⟩
    refine ⟨by omega, by omega, fun j _ hj => ?_⟩
    rw [row j (by omega)]
    by_cases q : j < l
    · rw [if_pos q, if_pos (by omega), h2 j q]
    · rw [if_neg q, if_neg (by omega)]
theorem M_wordK (ht : tpe u 33 20 T n) {m k w a b : Nat} (hm : k + m = 7) (hw : w < 9) (hab : a ≤ b) (hb : b ≤ n) (j : Option Value) : (nmB T w a b m k = true → RR (pv_X0 L xs) (d + 4) 197 71 [some (.ref 55), some (.int (jI a)), some (.int (jI w)), some (.int 1), some (.int (jI k)), j] [] (enc (tM u (b, none))) = some (some (.int (jI w)), enc (tM u (b, none)))) ∧ (nmB T w a b m k = false → ∃ j1 j2 j3, RR (pv_X0 L xs) (d + 4) 197 71 [some (.ref 55), some (.int (jI a)), some (.int (jI w)), some (.int 1), some (.int (jI k)), j] [] (enc (tM u (b, none))) = RR (pv_X0 L xs) (d + 4) 197 37 [some (.ref 55), some (.int (jI a)), some (.int (jI (w + 1))), j1, j2, j3] [] (enc (tM u (b, none)))) := by
  have hn := ht.1
  have e21 : gI (tM u (b, none)) 21 = jI b := by rw [gI_tM, if_neg (by decide), if_pos rfl]
  induction m generalizing k j with
  | zero =>
    refine ⟨fun _ => ?_, fun q => nomatch q⟩
    rw [B197_71, if_pos (by show jI 7 ≤ jI k; rw [jI_le (by omega) (by omega)]; omega), if_neg (by decide)]
  | succ m ih =>
    have es : nmB T w a b (m + 1) k = (decide ((pv_txt 9).getD (7 * w + k) 0 = if a + k < b then T (a + k) else 32) && nmB T w a b m (k + 1)) := rfl
    have em : (7 : Int32) * jI w + jI k = jI (7 * w + k) := by
      show jI 7 * jI w + jI k = _
      rw [jI_mul, jI_add]
    have ef : ∀ j, RR (pv_X0 L xs) (d + 4) 197 71 [some (.ref 55), some (.int (jI a)), some (.int (jI w)), some (.int 0), some (.int (jI (k + 1))), j] [] (enc (tM u (b, none))) = RR (pv_X0 L xs) (d + 4) 197 37 [some (.ref 55), some (.int (jI a)), some (.int (jI (w + 1))), some (.int 0), some (.int (jI (k + 1))), j] [] (enc (tM u (b, none))) := fun j => by
      rw [B197_71, if_pos rfl, if_pos rfl, ite_self, jI_succ]
    have st : RR (pv_X0 L xs) (d + 4) 197 71 [some (.ref 55), some (.int (jI a)), some (.int (jI w)), some (.int 1), some (.int (jI k)), j] [] (enc (tM u (b, none))) = if (pv_txt 9).getD (7 * w + k) 0 = (if a + k < b then T (a + k) else 32) then RR (pv_X0 L xs) (d + 4) 197 71 [some (.ref 55), some (.int (jI a)), some (.int (jI w)), some (.int 1), some (.int (jI (k + 1))), some (.int (if a + k < b then T (a + k) else 32))] [] (enc (tM u (b, none))) else RR (pv_X0 L xs) (d + 4) 197 71 [some (.ref 55), some (.int (jI a)), some (.int (jI w)), some (.int 0), some (.int (jI (k + 1))), some (.int (if a + k < b then T (a + k) else 32))] [] (enc (tM u (b, none))) := by
      rw [B197_71, if_neg (by show ¬ jI 7 ≤ jI k; rw [jI_le (by omega) (by omega)]; omega), if_neg (by decide), e21, jI_add, em]
      by_cases q : a + k < b
      · simp only [if_pos q]
        rw [if_neg (by rw [jI_le (by omega) (by omega)]; omega), pv_ixn (by omega) (by decide), pv_ixn (by omega) (by decide), gA_tM, (ht.2.2.1 (a + k) (by omega)).1, jI_succ]
      · simp only [if_neg q]
        rw [if_pos (by rw [jI_le (by omega) (by omega)]; omega), pv_ixn (by omega) (by decide), jI_succ]
    rw [st, es]
    by_cases q : (pv_txt 9).getD (7 * w + k) 0 = (if a + k < b then T (a + k) else 32)
    · rw [if_pos q, decide_eq_true q, Bool.true_and]
      exact ih (by omega) _
    · rw [if_neg q, decide_eq_false q, Bool.false_and, ef]
      exact ⟨fun q => (nomatch q), fun _ => ⟨_, _, _, rfl⟩⟩
/-- the first WORD from w on, in the reference's order -/
def fwM (T : Nat → Int32) (a b : Nat) : Nat → Nat → Int32
  | 0, _ => -1
  | m + 1, w => if mtB T (swN w) a b = true then jI w else fwM T a b m (w + 1)
theorem fwM_eq {a b : Nat} : fwM T a b 9 0 = wdM T a b := rfl
theorem M_wordW (ht : tpe u 33 20 T n) {m w a b : Nat} (hm : w + m = 9) (hab : a ≤ b) (hb : b ≤ n) (hl : ∀ j, a ≤ j → j < b → ltB T j = true) (j1 j2 j3 : Option Value) : RR (pv_X0 L xs) (d + 4) 197 37 [some (.ref 55), some (.int (jI a)), some (.int (jI w)), j1, j2, j3] [] (enc (tM u (b, none))) = some (some (.int (fwM T a b m w)), enc (tM u (b, if fwM T a b m w = -1 then some a else none))) := by
  have hn := ht.1
  have e21 : gI (tM u (b, none)) 21 = jI b := by rw [gI_tM, if_neg (by decide), if_pos rfl]
  have hw0 : wfS n (b, none) := ⟨hb, fun p e => nomatch e⟩
  induction m generalizing w j1 j2 j3 with
  | zero =>
    rw [B197_37, if_pos (by show jI 9 ≤ jI w; rw [jI_le (by omega) (by omega)]; omega), M_fails hw0 hn, pv_bd_some]
    exact B197_156
  | succ m ih =>
    have es : fwM T a b (m + 1) w = if mtB T (swN w) a b = true then jI w else fwM T a b m (w + 1) := rfl
    have hm7 := nmB_mt (T := T) (w := w) (by omega) hl hab
    have wneg : ¬ jI w = -1 := fun q => by
      have := congrArg Int32.toInt q
      rw [jI_toInt (by omega), show (-1 : Int32).toInt = -1 from rfl] at this
      omega
    have flag0 : ∀ j4, RR (pv_X0 L xs) (d + 4) 197 71 [some (.ref 55), some (.int (jI a)), some (.int (jI w)), some (.int 0), some (.int 0), j4] [] (enc (tM u (b, none))) = RR (pv_X0 L xs) (d + 4) 197 37 [some (.ref 55), some (.int (jI a)), some (.int (jI (w + 1))), some (.int 0), some (.int 0), j4] [] (enc (tM u (b, none))) := fun j4 => by
      rw [B197_71, if_pos rfl, if_pos rfl, ite_self, jI_succ]
    rw [B197_37, if_neg (by show ¬ jI 9 ≤ jI w; rw [jI_le (by omega) (by omega)]; omega), e21, es]
    by_cases c1 : b ≤ a
    · rw [if_pos (by rw [jI_le (by omega) (by omega)]; exact c1), if_neg (fun r => by have := hm7.mpr r; omega), flag0]
      exact ih (by omega) _ _ _
    rw [if_neg (by rw [jI_le (by omega) (by omega)]; exact c1), jI_sub hab]
    by_cases c2 : 7 < b - a
    · rw [if_pos (by show jI 7 < jI (b - a); rw [jI_lt (by omega) (by omega)]; exact c2), if_neg (fun r => by have := hm7.mpr r; omega), flag0]
      exact ih (by omega) _ _ _
    rw [if_neg (by show ¬ jI 7 < jI (b - a); rw [jI_lt (by omega) (by omega)]; exact c2)]
    have wk := M_wordK (L := L) (xs := xs) (d := d) ht (m := 7) (k := 0) (w := w) (by omega) (by omega) hab hb j3
    cases c3 : nmB T w a b 7 0 with
    | true =>
      have := hm7.mp ⟨by omega, by omega, c3⟩
      rw [if_pos this, if_neg wneg]
      exact wk.1 c3
    | false =>
      obtain ⟨y1, y2, y3, hy⟩ := wk.2 c3
      rw [if_neg (fun r => by have := (hm7.mpr r).2.2; rw [c3] at this; exact nomatch this)]
      exact hy.trans (ih (by omega) _ _ _)
theorem M_wordL (ht : tpe u 33 20 T n) {m a b : Nat} (hm : n ≤ b + m) (hb : b ≤ n) : RR (pv_X0 L xs) (d + 4) 197 5 [some (.ref 55), some (.int (jI a)), none, none, none, none] [] (enc (tM u (b, none))) = RR (pv_X0 L xs) (d + 4) 197 37 [some (.ref 55), some (.int (jI a)), some (.int 0), none, none, none] [] (enc (tM u (leE T m b, none))) := by
  have hn := ht.1
  induction m generalizing b with
  | zero =>
    have hw : wfS n (b, none) := ⟨hb, fun p e => nomatch e⟩
    rw [B197_5, M_here ht hw, pv_bd_some]
    simp only [Option.toList_some, List.cons_append, List.nil_append]
    rw [B197_9, M_isInI, pv_bd_some]
    simp only [Option.toList_some, List.cons_append, List.nil_append, show (97 : Int64).toInt = 97 from rfl, show (122 : Int64).toInt = 122 from rfl]
    rw [B197_19, ite01, if_neg]
    · rfl
    · unfold hr
      rw [if_neg (show ¬ b < n by omega)]
      decide
  | succ m ih =>
    have hw : wfS n (b, none) := ⟨hb, fun p e => nomatch e⟩
    have e : leE T (m + 1) b = if ltB T b = true then leE T m (b + 1) else b := rfl
    rw [B197_5, M_here ht hw, pv_bd_some]
    simp only [Option.toList_some, List.cons_append, List.nil_append]
    rw [B197_9, M_isInI, pv_bd_some]
    simp only [Option.toList_some, List.cons_append, List.nil_append, show (97 : Int64).toInt = 97 from rfl, show (122 : Int64).toInt = 122 from rfl]
    rw [B197_19, ite01, e]
    have hi : (97 ≤ (hr T n b).toInt ∧ (hr T n b).toInt ≤ 122) ↔ ltB T b = true := by
      unfold hr ltB
      rw [decide_eq_true_eq]
      by_cases q : b < n
      · rw [if_pos q]
      · rw [if_neg q, ht.2.2.2 b (by omega), show (-1 : Int32).toInt = -1 from rfl, z0]
        omega
    by_cases q : ltB T b = true
    · rw [if_pos (hi.mpr q), if_pos q, adv_tM]
      exact ih (by omega) (T_lt2 ht q)
    · rw [if_neg (fun r => q (hi.mp r)), if_neg q]
theorem M_word (ht : tpe u 33 20 T n) (h : wfS n s) (h0 : s.2 = none) : RR (pv_X0 L xs) (d + 4) 197 0 [some (.ref 55), none, none, none, none, none] [] (enc (tM u s)) = some (some (.int (wdM T s.1 (leE T 120 s.1))), enc (tM u (leE T 120 s.1, if wdM T s.1 (leE T 120 s.1) = -1 then some s.1 else none))) := by
  have e : gI (tM u s) 21 = jI s.1 := by rw [gI_tM, if_neg (by decide), if_pos rfl]
  have hn := ht.1
  have es : s = (s.1, none) := by rw [← h0]
  have hl := leE_le ht (m := 120) h.1
  have wl := M_wordL (L := L) (xs := xs) (d := d) ht (m := 120) (a := s.1) (b := s.1) (by omega) h.1
  rw [← es] at wl
  rw [B197_0, e]
  refine wl.trans ?_
  rw [← fwM_eq]
  exact M_wordW (m := 9) (w := 0) ht (by omega) hl.2.1 hl.1 hl.2.2.2 none none none
end WORD
