/-! a GAME read from THE TAPE, on both sides (printed by wip/whole/ops/pp.py) -/
def teamR (T : Nat → Int32) (nT o : Int32) (s : pS) : Int32 × pS := ((nmC T 1 s).1, if tmOk nT (nmC T 1 s).1 ∧ (nmC T 1 s).1 ≠ o then (nmC T 1 s).2 else fl (nmC T 1 s).2 s.1)
def q1 (T : Nat → Int32) (nT : Int32) (s : pS) : Int32 × pS := teamR T nT (-1) s
def q2 (T : Nat → Int32) (nT : Int32) (s : pS) : Int32 × pS := teamR T nT (q1 T nT s).1 (nd T 45 (q1 T nT s).2)
def q3 (T : Nat → Int32) (nT : Int32) (s : pS) : Int32 × pS := nmC T 4 (nd T 58 (q2 T nT s).2)
def q4 (T : Nat → Int32) (nT : Int32) (s : pS) : Int32 × pS := nmC T 4 (nd T 45 (q3 T nT s).2)
def q5 (T : Nat → Int32) (nT : Int32) (s : pS) : Int32 × pS := nmC T 2 (nd T 64 (q4 T nT s).2)
def q6 (T : Nat → Int32) (nT : Int32) (s : pS) : Int32 × pS := if skB T 120 (q5 T nT s).2 = true then nmR T 1 1 3 (adv (q5 T nT s).2) else (1, (q5 T nT s).2)
/-- the rows of GAMES -/
abbrev pG : Type := (Nat → Int32) × (Nat → Int32) × (Nat → Int32) × (Nat → Int32) × (Nat → Int32) × (Nat → Int64) × (Nat → Int64)
def up {α : Type} (f : Nat → α) (k : Nat) (v : α) : Nat → α := fun j => if j = k then v else f j
def ptG (G : pG) (k : Nat) (h a : Int32) (f g : Int64) (dy w : Int32) : pG := (up G.1 k h, up G.2.1 k a, up G.2.2.1 k dy, up G.2.2.2.1 k w, up G.2.2.2.2.1 k 0, up G.2.2.2.2.2.1 k f, up G.2.2.2.2.2.2 k g)
def grC (u : pv_U) : pG := (gA u 0, gA u 1, gA u 2, gA u 3, gA u 4, gB u 0, gB u 1)
def grM (u : pv_U) : pG := (gA u 26, gA u 27, gA u 28, gA u 29, gA u 30, gB u 17, gB u 18)
def sRC (u : pv_U) (G : pG) : pv_U := (u.1, u.2.1, fun r => if r = 0 then G.1 else if r = 1 then G.2.1 else if r = 2 then G.2.2.1 else if r = 3 then G.2.2.2.1 else if r = 4 then G.2.2.2.2.1 else u.2.2.1 r, fun r => if r = 0 then G.2.2.2.2.2.1 else if r = 1 then G.2.2.2.2.2.2 else u.2.2.2 r)
def sRM (u : pv_U) (G : pG) : pv_U := (u.1, u.2.1, fun r => if r = 26 then G.1 else if r = 27 then G.2.1 else if r = 28 then G.2.2.1 else if r = 29 then G.2.2.2.1 else if r = 30 then G.2.2.2.2.1 else u.2.2.1 r, fun r => if r = 17 then G.2.2.2.2.2.1 else if r = 18 then G.2.2.2.2.2.2 else u.2.2.2 r)
/-- a GAME read into place k -/
def rdG (T : Nat → Int32) (nT : Int32) (k : Nat) (s : pS) (G : pG) : pG × pS := if k < 30 then (if (q6 T nT s).2.2 = none then (ptG G k (q1 T nT s).1 (q2 T nT s).1 (q3 T nT s).1.toInt64 (q4 T nT s).1.toInt64 (q5 T nT s).1 (q6 T nT s).1, (q6 T nT s).2) else (G, (q6 T nT s).2)) else (G, fl s s.1)
section TAPE3
variable {L : Nat} {xs : Nat → Int32} {u : pv_U} {d k n p r i : Nat} {x y z c nT : Int32} {T : Nat → Int32} {s t : pS} {G : pG}
theorem gI_sRC {j : Nat} : gI (sRC u G) j = gI u j := rfl
theorem gJ_sRC {j : Nat} : gJ (sRC u G) j = gJ u j := rfl
theorem gI_sRM {j : Nat} : gI (sRM u G) j = gI u j := rfl
theorem gJ_sRM {j : Nat} : gJ (sRM u G) j = gJ u j := rfl
theorem gA_sRC {q : Nat} : gA (sRC u G) q = if q = 0 then G.1 else if q = 1 then G.2.1 else if q = 2 then G.2.2.1 else if q = 3 then G.2.2.2.1 else if q = 4 then G.2.2.2.2.1 else gA u q := rfl
theorem gB_sRC {q : Nat} : gB (sRC u G) q = if q = 0 then G.2.2.2.2.2.1 else if q = 1 then G.2.2.2.2.2.2 else gB u q := rfl
theorem gA_sRM {q : Nat} : gA (sRM u G) q = if q = 26 then G.1 else if q = 27 then G.2.1 else if q = 28 then G.2.2.1 else if q = 29 then G.2.2.2.1 else if q = 30 then G.2.2.2.2.1 else gA u q := rfl
theorem gB_sRM {q : Nat} : gB (sRM u G) q = if q = 17 then G.2.2.2.2.2.1 else if q = 18 then G.2.2.2.2.2.2 else gB u q := rfl
theorem pA_sRC {q j : Nat} : gA (sRC u G) q j = if q = 0 then G.1 j else if q = 1 then G.2.1 j else if q = 2 then G.2.2.1 j else if q = 3 then G.2.2.2.1 j else if q = 4 then G.2.2.2.2.1 j else gA u q j := by
  rw [gA_sRC]
  (repeat' split) <;> rfl
theorem pB_sRC {q j : Nat} : gB (sRC u G) q j = if q = 0 then G.2.2.2.2.2.1 j else if q = 1 then G.2.2.2.2.2.2 j else gB u q j := by
  rw [gB_sRC]
  (repeat' split) <;> rfl
theorem pA_sRM {q j : Nat} : gA (sRM u G) q j = if q = 26 then G.1 j else if q = 27 then G.2.1 j else if q = 28 then G.2.2.1 j else if q = 29 then G.2.2.2.1 j else if q = 30 then G.2.2.2.2.1 j else gA u q j := by
  rw [gA_sRM]
  (repeat' split) <;> rfl
theorem pB_sRM {q j : Nat} : gB (sRM u G) q j = if q = 17 then G.2.2.2.2.2.1 j else if q = 18 then G.2.2.2.2.2.2 j else gB u q j := by
  rw [gB_sRM]
  (repeat' split) <;> rfl
theorem sRC_self : sRC u (grC u) = u := by
  refine pv_ext (fun _ => rfl) (fun _ => rfl) (fun q j => ?_) (fun q j => ?_)
  · rw [gA_sRC]
    unfold grC
    grind
  · rw [gB_sRC]
    unfold grC
    grind
theorem sRM_self : sRM u (grM u) = u := by
  refine pv_ext (fun _ => rfl) (fun _ => rfl) (fun q j => ?_) (fun q j => ?_)
  · rw [gA_sRM]
    unfold grM
    grind
  · rw [gB_sRM]
    unfold grM
    grind
theorem pt_sRC {h a : Int32} {f g : Int64} {dy w : Int32} : uA (uA (uA (uB (uB (uA (uA (tC (sRC u G) s) 0 k h) 1 k a) 0 k f) 1 k g) 2 k dy) 3 k w) 4 k 0 = tC (sRC u (ptG G k h a f g dy w)) s := by
  refine pv_ext (fun _ => rfl) (fun _ => rfl) (fun q j => ?_) (fun q j => ?_)
  · simp only [gI_uI, gI_uJ, gI_uA, gI_uB, gJ_uI, gJ_uJ, gJ_uA, gJ_uB, gA_uI, gA_uJ, gA_uA, gA_uB, gB_uI, gB_uJ, gB_uA, gB_uB, gA_tC, pA_sRC, ptG, up]
    by_cases e : j = k
    · simp only [if_pos e]
      grind
    · simp only [if_neg e, ite_self]
  · simp only [gI_uI, gI_uJ, gI_uA, gI_uB, gJ_uI, gJ_uJ, gJ_uA, gJ_uB, gA_uI, gA_uJ, gA_uA, gA_uB, gB_uI, gB_uJ, gB_uA, gB_uB, gB_tC, pB_sRC, ptG, up]
    by_cases e : j = k
    · simp only [if_pos e]
      grind
    · simp only [if_neg e, ite_self]
theorem pt_sRM {h a : Int32} {f g : Int64} {dy w x : Int32} : uA (uA (uA (uB (uB (uA (uA (tM (uI (sRM u G) 24 x) s) 26 k h) 27 k a) 17 k f) 18 k g) 28 k dy) 29 k w) 30 k 0 = tM (uI (sRM u (ptG G k h a f g dy w)) 24 x) s := by
  refine pv_ext (fun _ => rfl) (fun _ => rfl) (fun q j => ?_) (fun q j => ?_)
  · simp only [gI_uI, gI_uJ, gI_uA, gI_uB, gJ_uI, gJ_uJ, gJ_uA, gJ_uB, gA_uI, gA_uJ, gA_uA, gA_uB, gB_uI, gB_uJ, gB_uA, gB_uB, gA_tM, pA_sRM, ptG, up]
    by_cases e : j = k
    · simp only [if_pos e]
      grind
    · simp only [if_neg e, ite_self]
  · simp only [gI_uI, gI_uJ, gI_uA, gI_uB, gJ_uI, gJ_uJ, gJ_uA, gJ_uB, gA_uI, gA_uJ, gA_uA, gA_uB, gB_uI, gB_uJ, gB_uA, gB_uB, gB_tM, pB_sRM, ptG, up]
    by_cases e : j = k
    · simp only [if_pos e]
      grind
    · simp only [if_neg e, ite_self]
theorem wf_teamR (ht : tpe u r i T n) (h : wfS n s) : wfS n (teamR T nT x s).2 := by
  have h1 := wf_nmC (k := 1) ht h
  show wfS n (if tmOk nT (nmC T 1 s).1 ∧ (nmC T 1 s).1 ≠ x then (nmC T 1 s).2 else fl (nmC T 1 s).2 s.1)
  split
  · exact h1
  · exact wf_fl h1 h.1
theorem wf_q1 (ht : tpe u r i T n) (h : wfS n s) : wfS n (q1 T nT s).2 := wf_teamR ht h
theorem wf_n1 (ht : tpe u r i T n) (h : wfS n s) : wfS n (nd T 45 (q1 T nT s).2) := wf_nd ht (by decide) (wf_q1 ht h)
theorem wf_q2 (ht : tpe u r i T n) (h : wfS n s) : wfS n (q2 T nT s).2 := wf_teamR ht (wf_n1 ht h)
theorem wf_n2 (ht : tpe u r i T n) (h : wfS n s) : wfS n (nd T 58 (q2 T nT s).2) := wf_nd ht (by decide) (wf_q2 ht h)
theorem wf_q3 (ht : tpe u r i T n) (h : wfS n s) : wfS n (q3 T nT s).2 := wf_nmC ht (wf_n2 ht h)
theorem wf_n3 (ht : tpe u r i T n) (h : wfS n s) : wfS n (nd T 45 (q3 T nT s).2) := wf_nd ht (by decide) (wf_q3 ht h)
theorem wf_q4 (ht : tpe u r i T n) (h : wfS n s) : wfS n (q4 T nT s).2 := wf_nmC ht (wf_n3 ht h)
theorem wf_n4 (ht : tpe u r i T n) (h : wfS n s) : wfS n (nd T 64 (q4 T nT s).2) := wf_nd ht (by decide) (wf_q4 ht h)
theorem wf_q5 (ht : tpe u r i T n) (h : wfS n s) : wfS n (q5 T nT s).2 := wf_nmC ht (wf_n4 ht h)
theorem wf_q6 (ht : tpe u r i T n) (h : wfS n s) : wfS n (q6 T nT s).2 := by
  unfold q6
  by_cases q : skB T 120 (q5 T nT s).2 = true
  · rw [if_pos q]
    exact wf_nmR ht (wf_adv (wf_q5 ht h) (T_sk ht (by decide) q).2)
  · rw [if_neg q]
    exact wf_q5 ht h
theorem wf_rdG (ht : tpe u r i T n) (h : wfS n s) : wfS n (rdG T nT k s G).2 := by
  unfold rdG
  split
  · split
    · exact wf_q6 ht h
    · exact wf_q6 ht h
  · exact wf_fl0 h
/-! the class -/
theorem C_readTeam (ht : tpe u 23 11 T n) (h : wfS n s) : RR (pv_X0 L xs) (d + 3) 84 0 [some (.ref 0), some (.int x), none, none] [] (enc (tC u s)) = some (some (.int (teamR T (gI u 1) x s).1), enc (tC u (teamR T (gI u 1) x s).2)) := by
  have e : gI (tC u s) 12 = jI s.1 := by rw [gI_tC, if_neg (by decide), if_pos rfl]
  have e1 : ∀ s, gI (tC u s) 1 = gI u 1 := fun s => by rw [gI_tC, if_neg (by decide), if_neg (by decide)]
  have h1 := wf_nmC (k := 1) ht h
  have cn : RR (pv_X0 L xs) (d + 2) 85 0 [some (.ref 44), some (.int 1), none, none] [] (enc (tC u s)) = some (some (.int (nmC T 1 s).1), enc (tC u (nmC T 1 s).2)) := C_number (k := 1) ht h (by decide)
  rw [B84_0, cn, pv_bd_some, e]
  simp only [Option.toList_some, List.cons_append, List.nil_append]
  rw [B84_16, C_team, pv_bd_some, e1]
  simp only [Option.toList_some, List.cons_append, List.nil_append]
  rw [B84_25, ite01]
  unfold teamR
  by_cases q : tmOk (gI u 1) (nmC T 1 s).1
  · rw [if_pos q]
    by_cases q2 : (nmC T 1 s).1 = x
    · rw [if_pos q2, if_neg (fun r => r.2 q2), C_failAt h1 ht.1, pv_bd_some]
      exact B84_41
    · rw [if_neg q2, if_pos ⟨q, q2⟩]
      exact B84_41
  · rw [if_neg q, if_neg (fun r => q r.1), C_failAt h1 ht.1, pv_bd_some]
    exact B84_41
theorem C_readWeight (ht : tpe u 23 11 T n) (h : wfS n s) : RR (pv_X0 L xs) (d + 3) 90 0 [some (.ref 0), none, none] [] (enc (tC u s)) = some (some (.int (nmR T 1 1 3 s).1), enc (tC u (nmR T 1 1 3 s).2)) := by
  have e : gI (tC u s) 12 = jI s.1 := by rw [gI_tC, if_neg (by decide), if_pos rfl]
  have h1 := wf_nmC (k := 1) ht h
  have cn : RR (pv_X0 L xs) (d + 2) 85 0 [some (.ref 44), some (.int 1), none, none] [] (enc (tC u s)) = some (some (.int (nmC T 1 s).1), enc (tC u (nmC T 1 s).2)) := C_number (k := 1) ht h (by decide)
  rw [B90_0, cn, pv_bd_some, e]
  simp only [Option.toList_some, List.cons_append, List.nil_append]
  rw [B90_16, C_weight, pv_bd_some]
  simp only [Option.toList_some, List.cons_append, List.nil_append]
  rw [B90_21, ite01]
  unfold nmR
  by_cases q : wtOk (nmC T 1 s).1
  · rw [if_pos q, if_pos (show (1 : Int32).toInt ≤ (nmC T 1 s).1.toInt ∧ (nmC T 1 s).1.toInt ≤ (3 : Int32).toInt from q)]
    exact B90_32
  · rw [if_neg q, if_neg (show ¬ ((1 : Int32).toInt ≤ (nmC T 1 s).1.toInt ∧ (nmC T 1 s).1.toInt ≤ (3 : Int32).toInt) from q), C_failAt h1 ht.1, pv_bd_some]
    exact B90_32
theorem tpe_sRC (ht : tpe u 23 11 T n) : tpe (sRC u G) 23 11 T n := ht
theorem C_readGame (ht : tpe u 23 11 T n) (h : wfS n s) (hk : k ≤ 30) : RR (pv_X0 L xs) (d + 4) 81 0 [some (.ref 0), some (.int (jI k)), none, none, none, none, none, none] [] (enc (tC (sRC u G) s)) = some (none, enc (tC (sRC u (rdG T (gI u 1) k s G).1) (rdG T (gI u 1) k s G).2)) := by
  have e : gI (tC (sRC u G) s) 12 = jI s.1 := by rw [gI_tC, if_neg (by decide), if_pos rfl]
  have ht' := tpe_sRC (G := G) ht
  have hn := ht.1
  rw [B81_0]
  unfold rdG
  by_cases q : k < 30
  case neg =>
    rw [if_neg (by show ¬ jI k < jI 30; rw [jI_lt (by omega) (by omega)]; exact q), if_neg q, e, C_failAt h hn, pv_bd_some]
    exact B81_20
  rw [if_pos (by show jI k < jI 30; rw [jI_lt (by omega) (by omega)]; exact q), if_pos q]
  rw [C_readTeam ht' h, pv_bd_some, show teamR T (gI (sRC u G) 1) (-1) s = q1 T (gI u 1) s from rfl]
  simp only [Option.toList_some, List.cons_append, List.nil_append]
  have w1 := wf_q1 (nT := gI u 1) ht h
  rw [B81_26, C_need ht' (by decide) w1, pv_bd_some]
  simp only [Option.toList_none, List.nil_append]
  have w2 := wf_n1 (nT := gI u 1) ht h
  rw [B81_36, C_readTeam ht' w2, pv_bd_some, show teamR T (gI (sRC u G) 1) (q1 T (gI u 1) s).1 (nd T 45 (q1 T (gI u 1) s).2) = q2 T (gI u 1) s from rfl]
  simp only [Option.toList_some, List.cons_append, List.nil_append]
  have w3 := wf_q2 (nT := gI u 1) ht h
  rw [B81_41, C_need ht' (by decide) w3, pv_bd_some]
  simp only [Option.toList_none, List.nil_append]
  have w4 := wf_n2 (nT := gI u 1) ht h
  rw [B81_51, show (4 : Int32) = jI 4 from rfl, C_number ht' w4 (by decide), pv_bd_some, show nmC T 4 (nd T 58 (q2 T (gI u 1) s).2) = q3 T (gI u 1) s from rfl]
  simp only [Option.toList_some, List.cons_append, List.nil_append]
  have w5 := wf_q3 (nT := gI u 1) ht h
  rw [B81_59, C_need ht' (by decide) w5, pv_bd_some]
  simp only [Option.toList_none, List.nil_append]
  have w6 := wf_n3 (nT := gI u 1) ht h
  rw [B81_70, show (4 : Int32) = jI 4 from rfl, C_number ht' w6 (by decide), pv_bd_some, show nmC T 4 (nd T 45 (q3 T (gI u 1) s).2) = q4 T (gI u 1) s from rfl]
  simp only [Option.toList_some, List.cons_append, List.nil_append]
  have w7 := wf_q4 (nT := gI u 1) ht h
  rw [B81_78, C_need ht' (by decide) w7, pv_bd_some]
  simp only [Option.toList_none, List.nil_append]
  have w8 := wf_n4 (nT := gI u 1) ht h
  rw [B81_89, show (2 : Int32) = jI 2 from rfl, C_number ht' w8 (by decide), pv_bd_some, show nmC T 2 (nd T 64 (q4 T (gI u 1) s).2) = q5 T (gI u 1) s from rfl]
  simp only [Option.toList_some, List.cons_append, List.nil_append]
  have w9 := wf_q5 (nT := gI u 1) ht h
  rw [B81_97, C_skips ht' w9, pv_bd_some]
  simp only [Option.toList_some, List.cons_append, List.nil_append]
  rw [B81_108, ite01]
  have wz := wf_q6 (nT := gI u 1) ht h
  have fin : ∀ (t : pS) (w : Int32), wfS n t → RR (pv_X0 L xs) (d + 4) 81 128 [some (.ref 0), some (.int (jI k)), some (.int (q1 T (gI u 1) s).1), some (.int (q2 T (gI u 1) s).1), some (.int (q3 T (gI u 1) s).1), some (.int (q4 T (gI u 1) s).1), some (.int (q5 T (gI u 1) s).1), some (.int w)] [.int (if t.2 = none then 0 else 1)] (enc (tC (sRC u G) t)) = some (none, enc (tC (sRC u (if t.2 = none then ptG G k (q1 T (gI u 1) s).1 (q2 T (gI u 1) s).1 (q3 T (gI u 1) s).1.toInt64 (q4 T (gI u 1) s).1.toInt64 (q5 T (gI u 1) s).1 w else G)) t)) := by
    intro t w hw
    rw [B81_128]
    by_cases q : t.2 = none
    · rw [if_pos q, if_pos rfl, if_pos q, C_put (by omega), pv_bd_some, pt_sRC]
      exact B81_152
    · rw [if_neg q, if_neg (by decide), if_neg q]
  have hs : (if (q6 T (gI u 1) s).2.2 = none then (ptG G k (q1 T (gI u 1) s).1 (q2 T (gI u 1) s).1 (q3 T (gI u 1) s).1.toInt64 (q4 T (gI u 1) s).1.toInt64 (q5 T (gI u 1) s).1 (q6 T (gI u 1) s).1, (q6 T (gI u 1) s).2) else (G, (q6 T (gI u 1) s).2)) = (if (q6 T (gI u 1) s).2.2 = none then ptG G k (q1 T (gI u 1) s).1 (q2 T (gI u 1) s).1 (q3 T (gI u 1) s).1.toInt64 (q4 T (gI u 1) s).1.toInt64 (q5 T (gI u 1) s).1 (q6 T (gI u 1) s).1 else G, (q6 T (gI u 1) s).2) := by
    split <;> rfl
  rw [hs]
  by_cases q2 : skB T 120 (q5 T (gI u 1) s).2 = true
  · have e6 : q6 T (gI u 1) s = nmR T 1 1 3 (adv (q5 T (gI u 1) s).2) := if_pos q2
    have e7 : skS T 120 (q5 T (gI u 1) s).2 = adv (q5 T (gI u 1) s).2 := if_pos q2
    have wa := wf_adv w9 (T_sk ht (by decide) q2).2
    rw [if_pos q2, e7, C_readWeight ht' wa, pv_bd_some, ← e6]
    simp only [Option.toList_some, List.cons_append, List.nil_append]
    rw [B81_115, C_failed wz hn, pv_bd_some]
    exact fin _ _ wz
  · have e6 : q6 T (gI u 1) s = (1, (q5 T (gI u 1) s).2) := if_neg q2
    have e7 : skS T 120 (q5 T (gI u 1) s).2 = (q5 T (gI u 1) s).2 := if_neg q2
    rw [if_neg q2, e7, e6, C_failed w9 hn, pv_bd_some]
    exact fin _ _ w9
end TAPE3
