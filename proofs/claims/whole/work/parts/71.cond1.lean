/-! a comparison of a CONDITION, on both sides (printed by wip/whole/ops/pp.py) -/
def vC (u : pv_U) (w : Int32) (k : Nat) : Int64 := if w = 0 then (gA u 0 k).toInt64 else if w = 1 then (gA u 1 k).toInt64 else if w = 2 then gB u 0 k else if w = 3 then gB u 1 k else if w = 4 then (gA u 2 k).toInt64 else if w = 5 then (gA u 3 k).toInt64 else if w = 6 then (if gA u 4 k = 0 then 0 else 1) else if w = 7 then mgn (gB u 0 k) (gB u 1 k) (gJ u 0) else (wby (gB u 0 k) (gB u 1 k)).toInt64
def vM (u : pv_U) (w : Int32) (k : Nat) : Int64 := if w = 0 then (gA u 26 k).toInt64 else if w = 1 then (gA u 27 k).toInt64 else if w = 2 then gB u 17 k else if w = 3 then gB u 18 k else if w = 4 then (gA u 28 k).toInt64 else if w = 5 then (gA u 29 k).toInt64 else if w = 6 then mgn (gB u 17 k) (gB u 18 k) (gJ u 4) else if w = 7 then (gA u 30 k).toInt64 else (wby (gB u 17 k) (gB u 18 k)).toInt64
theorem vC0 {u : pv_U} {k : Nat} : vC u 0 k = (gA u 0 k).toInt64 := by
  unfold vC
  rw [if_pos (show (0 : Int32) = 0 from rfl)]
theorem vC1 {u : pv_U} {k : Nat} : vC u 1 k = (gA u 1 k).toInt64 := by
  unfold vC
  rw [if_neg (show ¬ (1 : Int32) = 0 by decide), if_pos (show (1 : Int32) = 1 from rfl)]
theorem vC2 {u : pv_U} {k : Nat} : vC u 2 k = gB u 0 k := by
  unfold vC
  rw [if_neg (show ¬ (2 : Int32) = 0 by decide), if_neg (show ¬ (2 : Int32) = 1 by decide), if_pos (show (2 : Int32) = 2 from rfl)]
theorem vC3 {u : pv_U} {k : Nat} : vC u 3 k = gB u 1 k := by
  unfold vC
  rw [if_neg (show ¬ (3 : Int32) = 0 by decide), if_neg (show ¬ (3 : Int32) = 1 by decide), if_neg (show ¬ (3 : Int32) = 2 by decide), if_pos (show (3 : Int32) = 3 from rfl)]
theorem vC4 {u : pv_U} {k : Nat} : vC u 4 k = (gA u 2 k).toInt64 := by
  unfold vC
  rw [if_neg (show ¬ (4 : Int32) = 0 by decide), if_neg (show ¬ (4 : Int32) = 1 by decide), if_neg (show ¬ (4 : Int32) = 2 by decide), if_neg (show ¬ (4 : Int32) = 3 by decide), if_pos (show (4 : Int32) = 4 from rfl)]
theorem vC5 {u : pv_U} {k : Nat} : vC u 5 k = (gA u 3 k).toInt64 := by
  unfold vC
  rw [if_neg (show ¬ (5 : Int32) = 0 by decide), if_neg (show ¬ (5 : Int32) = 1 by decide), if_neg (show ¬ (5 : Int32) = 2 by decide), if_neg (show ¬ (5 : Int32) = 3 by decide), if_neg (show ¬ (5 : Int32) = 4 by decide), if_pos (show (5 : Int32) = 5 from rfl)]
theorem vC6 {u : pv_U} {k : Nat} : vC u 6 k = if gA u 4 k = 0 then 0 else 1 := by
  unfold vC
  rw [if_neg (show ¬ (6 : Int32) = 0 by decide), if_neg (show ¬ (6 : Int32) = 1 by decide), if_neg (show ¬ (6 : Int32) = 2 by decide), if_neg (show ¬ (6 : Int32) = 3 by decide), if_neg (show ¬ (6 : Int32) = 4 by decide), if_neg (show ¬ (6 : Int32) = 5 by decide), if_pos (show (6 : Int32) = 6 from rfl)]
theorem vC7 {u : pv_U} {k : Nat} : vC u 7 k = mgn (gB u 0 k) (gB u 1 k) (gJ u 0) := by
  unfold vC
  rw [if_neg (show ¬ (7 : Int32) = 0 by decide), if_neg (show ¬ (7 : Int32) = 1 by decide), if_neg (show ¬ (7 : Int32) = 2 by decide), if_neg (show ¬ (7 : Int32) = 3 by decide), if_neg (show ¬ (7 : Int32) = 4 by decide), if_neg (show ¬ (7 : Int32) = 5 by decide), if_neg (show ¬ (7 : Int32) = 6 by decide), if_pos (show (7 : Int32) = 7 from rfl)]
theorem vC8 {u : pv_U} {k : Nat} : vC u 8 k = (wby (gB u 0 k) (gB u 1 k)).toInt64 := by
  unfold vC
  rw [if_neg (show ¬ (8 : Int32) = 0 by decide), if_neg (show ¬ (8 : Int32) = 1 by decide), if_neg (show ¬ (8 : Int32) = 2 by decide), if_neg (show ¬ (8 : Int32) = 3 by decide), if_neg (show ¬ (8 : Int32) = 4 by decide), if_neg (show ¬ (8 : Int32) = 5 by decide), if_neg (show ¬ (8 : Int32) = 6 by decide), if_neg (show ¬ (8 : Int32) = 7 by decide)]
theorem vM0 {u : pv_U} {k : Nat} : vM u 0 k = (gA u 26 k).toInt64 := by
  unfold vM
  rw [if_pos (show (0 : Int32) = 0 from rfl)]
theorem vM1 {u : pv_U} {k : Nat} : vM u 1 k = (gA u 27 k).toInt64 := by
  unfold vM
  rw [if_neg (show ¬ (1 : Int32) = 0 by decide), if_pos (show (1 : Int32) = 1 from rfl)]
theorem vM2 {u : pv_U} {k : Nat} : vM u 2 k = gB u 17 k := by
  unfold vM
  rw [if_neg (show ¬ (2 : Int32) = 0 by decide), if_neg (show ¬ (2 : Int32) = 1 by decide), if_pos (show (2 : Int32) = 2 from rfl)]
theorem vM3 {u : pv_U} {k : Nat} : vM u 3 k = gB u 18 k := by
  unfold vM
  rw [if_neg (show ¬ (3 : Int32) = 0 by decide), if_neg (show ¬ (3 : Int32) = 1 by decide), if_neg (show ¬ (3 : Int32) = 2 by decide), if_pos (show (3 : Int32) = 3 from rfl)]
theorem vM4 {u : pv_U} {k : Nat} : vM u 4 k = (gA u 28 k).toInt64 := by
  unfold vM
  rw [if_neg (show ¬ (4 : Int32) = 0 by decide), if_neg (show ¬ (4 : Int32) = 1 by decide), if_neg (show ¬ (4 : Int32) = 2 by decide), if_neg (show ¬ (4 : Int32) = 3 by decide), if_pos (show (4 : Int32) = 4 from rfl)]
theorem vM5 {u : pv_U} {k : Nat} : vM u 5 k = (gA u 29 k).toInt64 := by
  unfold vM
  rw [if_neg (show ¬ (5 : Int32) = 0 by decide), if_neg (show ¬ (5 : Int32) = 1 by decide), if_neg (show ¬ (5 : Int32) = 2 by decide), if_neg (show ¬ (5 : Int32) = 3 by decide), if_neg (show ¬ (5 : Int32) = 4 by decide), if_pos (show (5 : Int32) = 5 from rfl)]
theorem vM6 {u : pv_U} {k : Nat} : vM u 6 k = mgn (gB u 17 k) (gB u 18 k) (gJ u 4) := by
  unfold vM
  rw [if_neg (show ¬ (6 : Int32) = 0 by decide), if_neg (show ¬ (6 : Int32) = 1 by decide), if_neg (show ¬ (6 : Int32) = 2 by decide), if_neg (show ¬ (6 : Int32) = 3 by decide), if_neg (show ¬ (6 : Int32) = 4 by decide), if_neg (show ¬ (6 : Int32) = 5 by decide), if_pos (show (6 : Int32) = 6 from rfl)]
theorem vM7 {u : pv_U} {k : Nat} : vM u 7 k = (gA u 30 k).toInt64 := by
  unfold vM
  rw [if_neg (show ¬ (7 : Int32) = 0 by decide), if_neg (show ¬ (7 : Int32) = 1 by decide), if_neg (show ¬ (7 : Int32) = 2 by decide), if_neg (show ¬ (7 : Int32) = 3 by decide), if_neg (show ¬ (7 : Int32) = 4 by decide), if_neg (show ¬ (7 : Int32) = 5 by decide), if_neg (show ¬ (7 : Int32) = 6 by decide), if_pos (show (7 : Int32) = 7 from rfl)]
theorem vM8 {u : pv_U} {k : Nat} : vM u 8 k = (wby (gB u 17 k) (gB u 18 k)).toInt64 := by
  unfold vM
  rw [if_neg (show ¬ (8 : Int32) = 0 by decide), if_neg (show ¬ (8 : Int32) = 1 by decide), if_neg (show ¬ (8 : Int32) = 2 by decide), if_neg (show ¬ (8 : Int32) = 3 by decide), if_neg (show ¬ (8 : Int32) = 4 by decide), if_neg (show ¬ (8 : Int32) = 5 by decide), if_neg (show ¬ (8 : Int32) = 6 by decide), if_neg (show ¬ (8 : Int32) = 7 by decide)]
abbrev cmP (sg : Int32) (a b : Int64) : Prop := (sg = 60 ∧ a < b) ∨ (sg = 61 ∧ a = b) ∨ (sg = 62 ∧ b < a)
/-- GAMES of which it is so, as bits -/
def gwF (v : Nat → Int64) (sg : Int32) (b : Int64) (N : Nat) : Int32 := itF (fun k s => if cmP sg (v k) b then s ||| (1 <<< (jI k &&& 31)) else s) 0 (N - 0) 0
/-- behind the sign that compares -/
def cm2 (T : Nat → Int32) (s : pS) : pS := if s.2 = none ∧ (T s.1 = 60 ∨ T s.1 = 61 ∨ T s.1 = 62) then adv s else fl s s.1
def cm (T : Nat → Int32) (gv : Int32 → Int32 → Int64 → Int32) (s : pS) : Int32 × pS := (if (nmC T 4 (skS T 45 (cm2 T (wd T s).2))).2.2 = none then gv (wd T s).1 (T (wd T s).2.1) (if skB T 45 (cm2 T (wd T s).2) = true then (-(nmC T 4 (skS T 45 (cm2 T (wd T s).2))).1.toInt64) else (nmC T 4 (skS T 45 (cm2 T (wd T s).2))).1.toInt64) else 0, (nmC T 4 (skS T 45 (cm2 T (wd T s).2))).2)
theorem cmx_eq {T : Nat → Int32} {gv : Int32 → Int32 → Int64 → Int32} {s : pS} : cm T gv s = (if (nmC T 4 (skS T 45 (cm2 T (wd T s).2))).2.2 = none then gv (wd T s).1 (T (wd T s).2.1) (if skB T 45 (cm2 T (wd T s).2) = true then (-(nmC T 4 (skS T 45 (cm2 T (wd T s).2))).1.toInt64) else (nmC T 4 (skS T 45 (cm2 T (wd T s).2))).1.toInt64) else 0, (nmC T 4 (skS T 45 (cm2 T (wd T s).2))).2) := rfl
section COND1
variable {L : Nat} {xs : Nat → Int32} {u : pv_U} {d k n p r i N : Nat} {x y z c : Int32} {T : Nat → Int32} {s t : pS}
theorem wf_cm2 (ht : tpe u r i T n) (h : wfS n s) : wfS n (cm2 T s) ∧ s.1 ≤ (cm2 T s).1 := by
  unfold cm2
  by_cases q : s.2 = none ∧ (T s.1 = 60 ∨ T s.1 = 61 ∨ T s.1 = 62)
  · rw [if_pos q]
    refine ⟨wf_adv h (T_lt ht (fun e => ?_)), Nat.le_succ _⟩
    rw [e] at q
    exact absurd q.2 (by decide)
  · rw [if_neg q]
    exact ⟨wf_fl0 h, Nat.le_refl _⟩
theorem sk_le : s.1 ≤ (skS T c s).1 := by
  unfold skS
  split
  · exact Nat.le_succ _
  · exact Nat.le_refl _
theorem nmC_ge (ht : tpe u r i T n) (h : wfS n s) : s.1 ≤ (nmC T k s).2.1 := by
  unfold nmC
  split
  · exact (nmL_le ht h.1).2
  · exact Nat.le_refl _
theorem wf_cm (ht : tpe u r i T n) (h : wfS n s) {gv : Int32 → Int32 → Int64 → Int32} : wfS n (cm T gv s).2 ∧ s.1 ≤ (cm T gv s).2.1 := by
  rw [cmx_eq]
  have h1 := wf_wd ht h
  have h2 := wf_cm2 ht h1.1
  have h3 := wf_skS (c := 45) ht (by decide) h2.1
  refine ⟨wf_nmC ht h3, ?_⟩
  have h4 := sk_le (T := T) (c := 45) (s := cm2 T (wd T s).2)
  have h5 := nmC_ge (k := 4) ht h3
  show s.1 ≤ (nmC T 4 (skS T 45 (cm2 T (wd T s).2))).2.1
  omega
theorem cm_failed {gv : Int32 → Int32 → Int64 → Int32} (h : ¬ s.2 = none) : cm T gv s = (0, s) := by
  have e1 : wd T s = (-1, s) := if_neg h
  have e2 : cm2 T s = s := by
    unfold cm2
    rw [if_neg (fun q => h q.1), fl_fl h]
  have e3 : skS T 45 s = s := by
    unfold skS skB
    rw [decide_eq_false h, Bool.false_and, if_neg (by decide)]
  have e4 : nmC T 4 s = (0, s) := by
    unfold nmC
    rw [if_neg (fun q => h q.1), fl_fl h]
  rw [cmx_eq, e1]
  show (if (nmC T 4 (skS T 45 (cm2 T s))).2.2 = none then _ else 0, (nmC T 4 (skS T 45 (cm2 T s))).2) = _
  rw [e2, e3, e4]
  show (if s.2 = none then _ else 0, s) = _
  rw [if_neg h]
/-! the class -/
theorem oco_wby {f g : Int64} : (if 0 ≤ oco f g then (oco f g).toInt64 else 2) = (wby f g).toInt64 := by
  unfold oco wby
  by_cases h1 : g < f
  · have h2 : ¬ f = g := fun q => by rw [q] at h1; exact Int64.lt_irrefl h1
    rw [if_neg h2, if_pos h1, if_pos h1]
    rfl
  · by_cases h3 : f < g
    · have h2 : ¬ f = g := fun q => by rw [q] at h3; exact Int64.lt_irrefl h3
      rw [if_neg h2, if_neg h1, if_neg h1, if_pos h3]
      rfl
    · have h2 : f = g := Int64.toInt_inj.mp (by rw [Int64.lt_iff_toInt_lt] at h1 h3; omega)
      rw [if_pos h2, if_neg h1, if_neg h3]
      rfl
theorem C_valueOf (hk : k < 31) (hx : 0 ≤ x.toInt ∧ x.toInt ≤ 8) : RR (pv_X0 L xs) (d + 1) 20 0 [some (.ref 1), some (.int (jI k)), some (.int x)] [] (enc u) = some (some (.long (vC u x k)), enc u) := by
  have ix : ∀ F : Nat → pv_R, pv_ix (jI k) 31 F = F k := fun F => pv_ixn hk (by decide)
  rw [B20_0]
  rcases i32_9 hx.1 hx.2 with e | e | e | e | e | e | e | e | e <;> subst e
  · rw [B20_1_0, B20_48, ix, vC0]
  · rw [B20_1_1, B20_56, ix, vC1]
  · rw [B20_1_2, B20_64, ix, vC2]
  · rw [B20_1_3, B20_71, ix, vC3]
  · rw [B20_1_4, B20_78, ix, vC4]
  · rw [B20_1_5, B20_86, ix, vC5]
  · rw [B20_1_6, B20_94, ix, vC6]
    split <;> rfl
  · rw [B20_1_7, B20_109, C_margin hk, pv_bd_some, vC7]
    exact B20_114
  · rw [B20_1_out (Or.inr (by decide)), B20_115, C_outcome hk, pv_bd_some, vC8]
    simp only [Option.toList_some, List.cons_append, List.nil_append]
    rw [B20_120, ← oco_wby]
    by_cases q : 0 ≤ oco (gB u 0 k) (gB u 1 k)
    · rw [if_pos q, if_pos q, C_outcome hk, pv_bd_some]
      exact B20_134
    · rw [if_neg q, if_neg q]
theorem C_compare {a b : Int64} : RR (pv_X0 L xs) d 74 0 [some (.long a), none, some (.long b), none] [] (enc u) = some (some (.int (if a < b then -1 else if a = b then 0 else 1)), enc u) := by
  rw [B74_0]
  simp only [lg_ge, lg_eq]
  by_cases h1 : a < b
  · rw [if_neg (fun r => r h1), if_pos h1]
  · rw [if_pos h1, if_neg h1]
    split <;> rfl
theorem C_gamesWith (hN : gI u 2 = jI N) (h30 : N ≤ 30) (hx : 0 ≤ x.toInt ∧ x.toInt ≤ 8) (hy : y = 60 ∨ y = 61 ∨ y = 62) : RR (pv_X0 L xs) (d + 2) 102 0 [some (.ref 1), some (.int x), some (.int y), some (.int z), none, none, none] [] (enc u) = some (some (.int (gwF (vC u x) y z.toInt64 N)), enc u) := by
  rw [B102_0]
  obtain ⟨j', h1⟩ := pv_it (R := fun k (s : Int32) (j : Option Value) => RR (pv_X0 L xs) (d + 2) 102 6 [some (.ref 1), some (.int x), some (.int y), some (.int z), some (.int s), some (.int (jI k)), j] [] (enc u)) (f := fun k s => if cmP y (vC u x k) z.toInt64 then s ||| (1 <<< (jI k &&& 31)) else s) (s := 0) (N := N) (by omega) (fun k s j h1 h2 => ⟨some (.int (if vC u x k < z.toInt64 then -1 else if vC u x k = z.toInt64 then 0 else 1)), by
    show RR (pv_X0 L xs) (d + 2) 102 6 _ _ _ = _
    rw [B102_6, hN, if_neg (jI_run h2 (by omega)), C_valueOf (by omega) hx, pv_bd_some]
    simp only [Option.toList_some, List.cons_append, List.nil_append]
    rw [B102_22, C_compare, pv_bd_some]
    simp only [Option.toList_some, List.cons_append, List.nil_append]
    rw [B102_27]
    simp only [jI_succ]
    generalize vC u x k = A
    generalize z.toInt64 = B
    have o2 : A = B → ¬ B < A := fun h q => by rw [h] at q; exact Int64.lt_irrefl q
    have o3 : ¬ A < B → ¬ A = B → B < A := fun h h' => by
      rw [Int64.lt_iff_toInt_lt] at h ⊢
      have : A.toInt ≠ B.toInt := fun q => h' (Int64.toInt_inj.mp q)
      omega
    have o4 : A < B → ¬ B < A := fun h q => by rw [Int64.lt_iff_toInt_lt] at h q; omega
    have o5 : A < B → ¬ A = B := fun h q => by rw [q] at h; exact Int64.lt_irrefl h
    have c1 : (if A < B then (-1 : Int32) else if A = B then 0 else 1) < 0 ↔ A < B := by
      by_cases h : A < B
      · rw [if_pos h]; exact ⟨fun _ => h, fun _ => by decide⟩
      · by_cases h2 : A = B
        · rw [if_neg h, if_pos h2]; exact ⟨fun q => absurd q (by decide), fun q => absurd q h⟩
        · rw [if_neg h, if_neg h2]; exact ⟨fun q => absurd q (by decide), fun q => absurd q h⟩
    have c2 : (if A < B then (-1 : Int32) else if A = B then 0 else 1) = 0 ↔ A = B := by
      by_cases h : A < B
      · rw [if_pos h]; exact ⟨fun q => absurd q (by decide), fun q => absurd q (o5 h)⟩
      · by_cases h2 : A = B
        · rw [if_neg h, if_pos h2]; exact ⟨fun _ => h2, fun _ => rfl⟩
        · rw [if_neg h, if_neg h2]; exact ⟨fun q => absurd q (by decide), fun q => absurd q h2⟩
    have c3 : (if A < B then (-1 : Int32) else if A = B then 0 else 1) ≤ 0 ↔ ¬ B < A := by
      by_cases h : A < B
      · rw [if_pos h]; exact ⟨fun _ => o4 h, fun _ => by decide⟩
      · by_cases h2 : A = B
        · rw [if_neg h, if_pos h2]; exact ⟨fun _ => o2 h2, fun _ => by decide⟩
        · rw [if_neg h, if_neg h2]; exact ⟨fun q => absurd q (by decide), fun q => absurd (o3 h h2) q⟩
    rcases hy with e | e | e <;> subst e
    · have ec : cmP 60 A B ↔ A < B := ⟨fun q => by rcases q with q | q | q; exact q.2; exact absurd q.1 (by decide); exact absurd q.1 (by decide), fun q => Or.inl ⟨rfl, q⟩⟩
      by_cases h : A < B
      · rw [if_pos (show (60 : Int32) = 60 from rfl), if_pos (c1.mpr h), if_pos (ec.mpr h)]
      · rw [if_pos (show (60 : Int32) = 60 from rfl), if_neg (fun r => h (c1.mp r)), if_neg (show ¬ (60 : Int32) = 61 by decide), if_neg (show ¬ (60 : Int32) = 62 by decide), if_neg (fun r => h (ec.mp r))]
    · have ec : cmP 61 A B ↔ A = B := ⟨fun q => by rcases q with q | q | q; exact absurd q.1 (by decide); exact q.2; exact absurd q.1 (by decide), fun q => Or.inr (Or.inl ⟨rfl, q⟩)⟩
      by_cases h : A = B
      · rw [if_neg (show ¬ (61 : Int32) = 60 by decide), if_pos (show (61 : Int32) = 61 from rfl), if_pos (c2.mpr h), if_pos (ec.mpr h)]
      · rw [if_neg (show ¬ (61 : Int32) = 60 by decide), if_pos (show (61 : Int32) = 61 from rfl), if_neg (fun r => h (c2.mp r)), if_neg (show ¬ (61 : Int32) = 62 by decide), if_neg (fun r => h (ec.mp r))]
    · have ec : cmP 62 A B ↔ B < A := ⟨fun q => by rcases q with q | q | q; exact absurd q.1 (by decide); exact absurd q.1 (by decide); exact q.2, fun q => Or.inr (Or.inr ⟨rfl, q⟩)⟩
      by_cases h : B < A
      · rw [if_neg (show ¬ (62 : Int32) = 60 by decide), if_neg (show ¬ (62 : Int32) = 61 by decide), if_pos (show (62 : Int32) = 62 from rfl), if_neg (fun r => c3.mp r h), if_pos (ec.mpr h)]
      · rw [if_neg (show ¬ (62 : Int32) = 60 by decide), if_neg (show ¬ (62 : Int32) = 61 by decide), if_pos (show (62 : Int32) = 62 from rfl), if_pos (c3.mpr h), if_neg (fun r => h (ec.mp r))]⟩) 0 none
  refine h1.trans ?_
  show RR (pv_X0 L xs) (d + 2) 102 6 _ _ _ = _
  rw [B102_6, hN, if_pos jI_end]
  rfl
theorem C_comparer (ht : tpe u 23 11 T n) (h : wfS n s) : RR (pv_X0 L xs) (d + 2) 101 0 [some (.ref 44), none] [] (enc (tC u s)) = some (some (.int (T s.1)), enc (tC u (cm2 T s))) := by
  have hn := ht.1
  have e : gI (tC u s) 12 = jI s.1 := by rw [gI_tC, if_neg (by decide), if_pos rfl]
  rw [B101_0, C_ahead ht h, pv_bd_some]
  simp only [Option.toList_some, List.cons_append, List.nil_append]
  rw [B101_4, C_skips ht h, pv_bd_some]
  simp only [Option.toList_some, List.cons_append, List.nil_append]
  rw [B101_11, ite01]
  unfold cm2
  by_cases q : s.2 = none
  case neg =>
    have sk0 : ∀ c, skB T c s = false := fun c => by
      unfold skB
      rw [decide_eq_false q, Bool.false_and]
    have sk1 : ∀ c, skS T c s = s := fun c => by
      unfold skS
      rw [sk0, if_neg (by decide)]
    rw [sk0, if_neg (by decide), sk1, C_skips ht h, pv_bd_some]
    simp only [Option.toList_some, List.cons_append, List.nil_append]
    rw [B101_20, ite01, sk0, if_neg (by decide), sk1, C_skips ht h, pv_bd_some]
    simp only [Option.toList_some, List.cons_append, List.nil_append]
    rw [B101_29, ite01, sk0, if_neg (by decide), sk1, e, C_failAt h hn, pv_bd_some, if_neg (fun r => q r.1)]
    exact B101_40
  have skt : ∀ c, T s.1 = c → skB T c s = true := fun c e => by
    unfold skB
    rw [decide_eq_true q, decide_eq_true e]
    rfl
  have skf : ∀ c, ¬ T s.1 = c → skB T c s = false := fun c e => by
    unfold skB
    rw [decide_eq_false e, Bool.and_false]
  have s1t : ∀ c, T s.1 = c → skS T c s = adv s := fun c e => by
    unfold skS
    rw [skt c e, if_pos rfl]
  have s1f : ∀ c, ¬ T s.1 = c → skS T c s = s := fun c e => by
    unfold skS
    rw [skf c e, if_neg (by decide)]
  by_cases c1 : T s.1 = 60
  · rw [skt _ c1, if_pos rfl, s1t _ c1, if_pos ⟨q, Or.inl c1⟩]
    exact B101_40
  rw [skf _ c1, if_neg (by decide), s1f _ c1, C_skips ht h, pv_bd_some]
  simp only [Option.toList_some, List.cons_append, List.nil_append]
  rw [B101_20, ite01]
  by_cases c2 : T s.1 = 61
  · rw [skt _ c2, if_pos rfl, s1t _ c2, if_pos ⟨q, Or.inr (Or.inl c2)⟩]
    exact B101_40
  rw [skf _ c2, if_neg (by decide), s1f _ c2, C_skips ht h, pv_bd_some]
  simp only [Option.toList_some, List.cons_append, List.nil_append]
  rw [B101_29, ite01]
  by_cases c3 : T s.1 = 62
  · rw [skt _ c3, if_pos rfl, s1t _ c3, if_pos ⟨q, Or.inr (Or.inr c3)⟩]
    exact B101_40
  rw [skf _ c3, if_neg (by decide), s1f _ c3, e, C_failAt h hn, pv_bd_some, if_neg (fun r => r.2.elim c1 (fun r => r.elim c2 c3))]
  exact B101_40
theorem wd_ok (h : (wd T s).2.2 = none) : s.2 = none ∧ 0 ≤ (wd T s).1.toInt ∧ (wd T s).1.toInt ≤ 8 := by
  unfold wd at h ⊢
  by_cases q : s.2 = none
  case neg =>
    rw [if_neg q] at h
    exact absurd h q
  rw [if_pos q] at h ⊢
  refine ⟨q, ?_⟩
  have h' : (if wdC T s.1 (leE T 120 s.1) = -1 then some s.1 else none) = none := h
  by_cases q2 : wdC T s.1 (leE T 120 s.1) = -1
  · rw [if_pos q2] at h'
    exact nomatch h'
  · show 0 ≤ (wdC T s.1 (leE T 120 s.1)).toInt ∧ (wdC T s.1 (leE T 120 s.1)).toInt ≤ 8
    unfold wdC at q2 ⊢
    (repeat' split) <;> first | decide | skip
    simp_all
theorem cm2_ok (h : (cm2 T s).2 = none) : s.2 = none ∧ (T s.1 = 60 ∨ T s.1 = 61 ∨ T s.1 = 62) := by
  unfold cm2 at h
  by_cases q : s.2 = none ∧ (T s.1 = 60 ∨ T s.1 = 61 ∨ T s.1 = 62)
  · exact q
  · rw [if_neg q] at h
    exact absurd h fl_some
theorem skS_none (h : (skS T c s).2 = none) : s.2 = none := by
  unfold skS at h
  split at h
  · exact h
  · exact h
theorem neg64 (h : 0 ≤ x.toInt ∧ x.toInt < 10000) : (-x).toInt64 = -(x.toInt64) := by
  refine Int64.toInt_inj.mp ?_
  rw [Int32.toInt_toInt64, Int64.toInt_neg, Int32.toInt_neg, Int32.toInt_toInt64]
  rw [Int.bmod_eq_of_le (by omega) (by omega), Int.bmod_eq_of_le (by omega) (by omega)]
theorem C_cmp (ht : tpe u 23 11 T n) (hN : gI u 2 = jI N) (h30 : N ≤ 30) (h : wfS n s) : RR (pv_X0 L xs) (d + 7) 97 0 [some (.ref 0), none, none, none, none] [] (enc (tC u s)) = some (some (.int (cm T (fun w sg b => gwF (vC u w) sg b N) s).1), enc (tC u (cm T (fun w sg b => gwF (vC u w) sg b N) s).2)) := by
  have hn := ht.1
  have h1 := (wf_wd ht h).1
  have h2 := (wf_cm2 ht h1).1
  have h3 := wf_skS (c := 45) ht (by decide) h2
  have h4 := wf_nmC (k := 4) ht h3
  rw [cmx_eq, B97_0, C_word ht h, pv_bd_some]
  simp only [Option.toList_some, List.cons_append, List.nil_append]
  rw [B97_7, C_comparer ht h1, pv_bd_some]
  simp only [Option.toList_some, List.cons_append, List.nil_append]
  rw [B97_15, C_skips ht h2, pv_bd_some]
  simp only [Option.toList_some, List.cons_append, List.nil_append]
  rw [B97_25, show (4 : Int32) = jI 4 from rfl, C_number ht h3 (by decide), pv_bd_some]
  simp only [Option.toList_some, List.cons_append, List.nil_append]
  rw [B97_34, C_failed h4 hn, pv_bd_some]
  simp only [Option.toList_some, List.cons_append, List.nil_append]
  rw [B97_43]
  by_cases q : (nmC T 4 (skS T 45 (cm2 T (wd T s).2))).2.2 = none
  case neg => rw [if_neg q, if_neg (by decide), if_neg q]
  have qa := skS_none (nmC_none q)
  have qb := cm2_ok qa
  have qc := wd_ok qb.1
  have hv := nmC_val (T := T) (k := 4) (s := skS T 45 (cm2 T (wd T s).2)) (by decide)
  have hN' : gI (tC u (nmC T 4 (skS T 45 (cm2 T (wd T s).2))).2) 2 = jI N := by rw [gI_tC, if_neg (by decide), if_neg (by decide)]; exact hN
  have ev : vC (tC u (nmC T 4 (skS T 45 (cm2 T (wd T s).2))).2) = vC u := rfl
  rw [if_pos q, if_pos rfl, ite01, if_pos q]
  by_cases q2 : skB T 45 (cm2 T (wd T s).2) = true
  · simp only [if_pos q2]
    rw [C_gamesWith hN' h30 qc.2 qb.2, pv_bd_some, neg64 ⟨hv.1, by have : _ < (10000 : Int) := hv.2; omega⟩, ev]
    exact B97_69
  · simp only [if_neg q2]
    rw [C_gamesWith hN' h30 qc.2 qb.2, pv_bd_some, ev]
    exact B97_69
end COND1
