/-! image, undo (printed by wip/whole/ops/p60.py and pp.py) -/
section OPS8
variable {L : Nat} {xs : Nat → Int32} {u : pv_U} {d k r i n N j : Nat} {x y z w : Int32} {q : Nat} {f : Nat → Int32} {g : Nat → Int64}
theorem fA_cA (h : ¬ q = r) : gA (cA u r i n f) q = gA u q := funext fun j => by rw [gA_cA, if_neg h]
theorem fB_cA : gB (cA u r i n f) q = gB u q := rfl
theorem fA_cB : gA (cB u r i n g) q = gA u q := rfl
theorem fB_cB (h : ¬ q = r) : gB (cB u r i n g) q = gB u q := funext fun j => by rw [gB_cB, if_neg h]
def cpa (u : pv_U) (k : Nat) : pv_U := cA (cA (cA (cB (cB (cA (cA (u) 7 0 k (gA u 0)) 8 0 k (gA u 1)) 2 0 k (gB u 0)) 3 0 k (gB u 1)) 9 0 k (gA u 2)) 10 0 k (gA u 3)) 11 0 k (gA u 4)
def cfa (u : pv_U) (k : Nat) : pv_U := cA (cA u 12 0 k (gA u 5)) 13 0 k (gA u 6)
def cha (u : pv_U) : pv_U := uI (uJ (uI (uI (uI u 5 (gI u 1)) 6 (gI u 2)) 7 (gI u 3)) 1 (gJ u 0)) 8 (gI u 4)
theorem C_cpla (hv : ∀ k, k < 31 → chOk (gA u 4 k)) : RR (pv_X0 L xs) d 122 42 [some (.ref 11), some (.ref 1), some (.int 0)] [] (enc u) = RR (pv_X0 L xs) d 122 140 [some (.ref 11), some (.ref 1), some (.int 0)] [] (enc (cpa u 31)) := by
  obtain ⟨a, h1, h2⟩ := pv_loop (R := fun k a => RR (pv_X0 L xs) d 122 42 [some (.ref 11), some (.ref 1), some (.int (jI k))] [] (enc a)) (P := fun k a => a = cpa u k) (N := 31) (fun k a hk ha => ⟨cpa u (k + 1), by
    subst ha
    show RR (pv_X0 L xs) d 122 42 _ _ _ = _
    rw [B122a_42, if_neg (by show ¬ jI 30 < jI k; rw [jI_lt (by omega) (by omega)]; omega)]
    simp only [pv_ixn hk (show 31 < 1000000 by decide), jI_succ]
    refine congrArg (fun z => RR (pv_X0 L xs) d 122 42 [some (.ref 11), some (.ref 1), some (.int (jI (k + 1)))] [] (enc z)) ?_
    have hn := nar01 (hv k hk)
    unfold cpa
    refine pv_ext (fun i => ?_) (fun i => ?_) (fun i j => ?_) (fun i j => ?_)
    · simp only [gI_uI, gI_uJ, gI_uA, gI_uB, gJ_uI, gJ_uJ, gJ_uA, gJ_uB, gA_uI, gA_uJ, gA_uA, gA_uB, gB_uI, gB_uJ, gB_uA, gB_uB, gI_cA, gI_cB, gJ_cA, gJ_cB, gA_cA, gA_cB, gB_cA, gB_cB]
    · simp only [gI_uI, gI_uJ, gI_uA, gI_uB, gJ_uI, gJ_uJ, gJ_uA, gJ_uB, gA_uI, gA_uJ, gA_uA, gA_uB, gB_uI, gB_uJ, gB_uA, gB_uB, gI_cA, gI_cB, gJ_cA, gJ_cB, gA_cA, gA_cB, gB_cA, gB_cB]
    · simp only [gI_uI, gI_uJ, gI_uA, gI_uB, gJ_uI, gJ_uJ, gJ_uA, gJ_uB, gA_uI, gA_uJ, gA_uA, gA_uB, gB_uI, gB_uJ, gB_uA, gB_uB, gI_cA, gI_cB, gJ_cA, gJ_cB, gA_cA, gA_cB, gB_cA, gB_cB, Nat.reduceEqDiff, reduceIte, hn]
      grind
    · simp only [gI_uI, gI_uJ, gI_uA, gI_uB, gJ_uI, gJ_uJ, gJ_uA, gJ_uB, gA_uI, gA_uJ, gA_uA, gA_uB, gB_uI, gB_uJ, gB_uA, gB_uB, gI_cA, gI_cB, gJ_cA, gJ_cB, gA_cA, gA_cB, gB_cA, gB_cB, Nat.reduceEqDiff, reduceIte]
      grind, rfl⟩) (a0 := u) (by unfold cpa; simp only [cA_zero, cB_zero])
  subst h2
  refine h1.trans ?_
  show RR (pv_X0 L xs) d 122 42 _ _ _ = _
  rw [B122a_42, if_pos (by decide)]
theorem C_cpfa : RR (pv_X0 L xs) d 122 140 [some (.ref 11), some (.ref 1), some (.int 0)] [] (enc u) = some (none, enc (cfa u 12)) := by
  obtain ⟨a, h1, h2⟩ := pv_loop (R := fun k a => RR (pv_X0 L xs) d 122 140 [some (.ref 11), some (.ref 1), some (.int (jI k))] [] (enc a)) (P := fun k a => a = cfa u k) (N := 12) (fun k a hk ha => ⟨cfa u (k + 1), by
    subst ha
    show RR (pv_X0 L xs) d 122 140 _ _ _ = _
    rw [B122a_140, if_neg (run_lit (c := 12) (N := 12) rfl hk (by omega))]
    simp only [pv_ixn hk (show 12 < 1000000 by decide), jI_succ]
    refine congrArg (fun z => RR (pv_X0 L xs) d 122 140 [some (.ref 11), some (.ref 1), some (.int (jI (k + 1)))] [] (enc z)) ?_
    unfold cfa
    refine pv_ext (fun i => ?_) (fun i => ?_) (fun i j => ?_) (fun i j => ?_)
    · simp only [gI_uI, gI_uJ, gI_uA, gI_uB, gJ_uI, gJ_uJ, gJ_uA, gJ_uB, gA_uI, gA_uJ, gA_uA, gA_uB, gB_uI, gB_uJ, gB_uA, gB_uB, gI_cA, gI_cB, gJ_cA, gJ_cB, gA_cA, gA_cB, gB_cA, gB_cB]
    · simp only [gI_uI, gI_uJ, gI_uA, gI_uB, gJ_uI, gJ_uJ, gJ_uA, gJ_uB, gA_uI, gA_uJ, gA_uA, gA_uB, gB_uI, gB_uJ, gB_uA, gB_uB, gI_cA, gI_cB, gJ_cA, gJ_cB, gA_cA, gA_cB, gB_cA, gB_cB]
    · simp only [gI_uI, gI_uJ, gI_uA, gI_uB, gJ_uI, gJ_uJ, gJ_uA, gJ_uB, gA_uI, gA_uJ, gA_uA, gA_uB, gB_uI, gB_uJ, gB_uA, gB_uB, gI_cA, gI_cB, gJ_cA, gJ_cB, gA_cA, gA_cB, gB_cA, gB_cB, Nat.reduceEqDiff, reduceIte]
      grind
    · simp only [gI_uI, gI_uJ, gI_uA, gI_uB, gJ_uI, gJ_uJ, gJ_uA, gJ_uB, gA_uI, gA_uJ, gA_uA, gA_uB, gB_uI, gB_uJ, gB_uA, gB_uB, gI_cA, gI_cB, gJ_cA, gJ_cB, gA_cA, gA_cB, gB_cA, gB_cB, Nat.reduceEqDiff, reduceIte], rfl⟩) (a0 := u) (by unfold cfa; simp only [cA_zero, cB_zero])
  subst h2
  refine h1.trans ?_
  show RR (pv_X0 L xs) d 122 140 _ _ _ = _
  rw [B122a_140, if_pos (by decide)]
theorem C_copya (hf : chOk (gI u 4)) (hv : ∀ k, k < 31 → chOk (gA u 4 k)) : RR (pv_X0 L xs) d 122 0 [some (.ref 11), some (.ref 1), none] [] (enc u) = some (none, enc (cfa (cpa (cha u) 31) 12)) := by
  rw [B122a_0]
  have e : (decide (gI u 4 = 0) || decide (gI u 4 = 1)) = true := by
    rcases i32_01 hf with e | e <;> rw [e] <;> rfl
  rw [e, cond_true]
  refine (C_cpla (u := cha u) ?_).trans C_cpfa
  exact hv
def cpb (u : pv_U) (k : Nat) : pv_U := cA (cA (cA (cB (cB (cA (cA (u) 0 0 k (gA u 7)) 1 0 k (gA u 8)) 0 0 k (gB u 2)) 1 0 k (gB u 3)) 2 0 k (gA u 9)) 3 0 k (gA u 10)) 4 0 k (gA u 11)
def cfb (u : pv_U) (k : Nat) : pv_U := cA (cA u 5 0 k (gA u 12)) 6 0 k (gA u 13)
def chb (u : pv_U) : pv_U := uI (uJ (uI (uI (uI u 1 (gI u 5)) 2 (gI u 6)) 3 (gI u 7)) 0 (gJ u 1)) 4 (gI u 8)
theorem C_cplb (hv : ∀ k, k < 31 → chOk (gA u 11 k)) : RR (pv_X0 L xs) d 122 42 [some (.ref 1), some (.ref 11), some (.int 0)] [] (enc u) = RR (pv_X0 L xs) d 122 140 [some (.ref 1), some (.ref 11), some (.int 0)] [] (enc (cpb u 31)) := by
  obtain ⟨a, h1, h2⟩ := pv_loop (R := fun k a => RR (pv_X0 L xs) d 122 42 [some (.ref 1), some (.ref 11), some (.int (jI k))] [] (enc a)) (P := fun k a => a = cpb u k) (N := 31) (fun k a hk ha => ⟨cpb u (k + 1), by
    subst ha
    show RR (pv_X0 L xs) d 122 42 _ _ _ = _
    rw [B122b_42, if_neg (by show ¬ jI 30 < jI k; rw [jI_lt (by omega) (by omega)]; omega)]
    simp only [pv_ixn hk (show 31 < 1000000 by decide), jI_succ]
    refine congrArg (fun z => RR (pv_X0 L xs) d 122 42 [some (.ref 1), some (.ref 11), some (.int (jI (k + 1)))] [] (enc z)) ?_
    have hn := nar01 (hv k hk)
    unfold cpb
    refine pv_ext (fun i => ?_) (fun i => ?_) (fun i j => ?_) (fun i j => ?_)
    · simp only [gI_uI, gI_uJ, gI_uA, gI_uB, gJ_uI, gJ_uJ, gJ_uA, gJ_uB, gA_uI, gA_uJ, gA_uA, gA_uB, gB_uI, gB_uJ, gB_uA, gB_uB, gI_cA, gI_cB, gJ_cA, gJ_cB, gA_cA, gA_cB, gB_cA, gB_cB]
    · simp only [gI_uI, gI_uJ, gI_uA, gI_uB, gJ_uI, gJ_uJ, gJ_uA, gJ_uB, gA_uI, gA_uJ, gA_uA, gA_uB, gB_uI, gB_uJ, gB_uA, gB_uB, gI_cA, gI_cB, gJ_cA, gJ_cB, gA_cA, gA_cB, gB_cA, gB_cB]
    · simp only [gI_uI, gI_uJ, gI_uA, gI_uB, gJ_uI, gJ_uJ, gJ_uA, gJ_uB, gA_uI, gA_uJ, gA_uA, gA_uB, gB_uI, gB_uJ, gB_uA, gB_uB, gI_cA, gI_cB, gJ_cA, gJ_cB, gA_cA, gA_cB, gB_cA, gB_cB, Nat.reduceEqDiff, reduceIte, hn]
      grind
    · simp only [gI_uI, gI_uJ, gI_uA, gI_uB, gJ_uI, gJ_uJ, gJ_uA, gJ_uB, gA_uI, gA_uJ, gA_uA, gA_uB, gB_uI, gB_uJ, gB_uA, gB_uB, gI_cA, gI_cB, gJ_cA, gJ_cB, gA_cA, gA_cB, gB_cA, gB_cB, Nat.reduceEqDiff, reduceIte]
      grind, rfl⟩) (a0 := u) (by unfold cpb; simp only [cA_zero, cB_zero])
  subst h2
  refine h1.trans ?_
  show RR (pv_X0 L xs) d 122 42 _ _ _ = _
  rw [B122b_42, if_pos (by decide)]
theorem C_cpfb : RR (pv_X0 L xs) d 122 140 [some (.ref 1), some (.ref 11), some (.int 0)] [] (enc u) = some (none, enc (cfb u 12)) := by
  obtain ⟨a, h1, h2⟩ := pv_loop (R := fun k a => RR (pv_X0 L xs) d 122 140 [some (.ref 1), some (.ref 11), some (.int (jI k))] [] (enc a)) (P := fun k a => a = cfb u k) (N := 12) (fun k a hk ha => ⟨cfb u (k + 1), by
    subst ha
    show RR (pv_X0 L xs) d 122 140 _ _ _ = _
    rw [B122b_140, if_neg (run_lit (c := 12) (N := 12) rfl hk (by omega))]
    simp only [pv_ixn hk (show 12 < 1000000 by decide), jI_succ]
    refine congrArg (fun z => RR (pv_X0 L xs) d 122 140 [some (.ref 1), some (.ref 11), some (.int (jI (k + 1)))] [] (enc z)) ?_
    unfold cfb
    refine pv_ext (fun i => ?_) (fun i => ?_) (fun i j => ?_) (fun i j => ?_)
    · simp only [gI_uI, gI_uJ, gI_uA, gI_uB, gJ_uI, gJ_uJ, gJ_uA, gJ_uB, gA_uI, gA_uJ, gA_uA, gA_uB, gB_uI, gB_uJ, gB_uA, gB_uB, gI_cA, gI_cB, gJ_cA, gJ_cB, gA_cA, gA_cB, gB_cA, gB_cB]
    · simp only [gI_uI, gI_uJ, gI_uA, gI_uB, gJ_uI, gJ_uJ, gJ_uA, gJ_uB, gA_uI, gA_uJ, gA_uA, gA_uB, gB_uI, gB_uJ, gB_uA, gB_uB, gI_cA, gI_cB, gJ_cA, gJ_cB, gA_cA, gA_cB, gB_cA, gB_cB]
    · simp only [gI_uI, gI_uJ, gI_uA, gI_uB, gJ_uI, gJ_uJ, gJ_uA, gJ_uB, gA_uI, gA_uJ, gA_uA, gA_uB, gB_uI, gB_uJ, gB_uA, gB_uB, gI_cA, gI_cB, gJ_cA, gJ_cB, gA_cA, gA_cB, gB_cA, gB_cB, Nat.reduceEqDiff, reduceIte]
      grind
    · simp only [gI_uI, gI_uJ, gI_uA, gI_uB, gJ_uI, gJ_uJ, gJ_uA, gJ_uB, gA_uI, gA_uJ, gA_uA, gA_uB, gB_uI, gB_uJ, gB_uA, gB_uB, gI_cA, gI_cB, gJ_cA, gJ_cB, gA_cA, gA_cB, gB_cA, gB_cB, Nat.reduceEqDiff, reduceIte], rfl⟩) (a0 := u) (by unfold cfb; simp only [cA_zero, cB_zero])
  subst h2
  refine h1.trans ?_
  show RR (pv_X0 L xs) d 122 140 _ _ _ = _
  rw [B122b_140, if_pos (by decide)]
theorem C_copyb (hf : chOk (gI u 8)) (hv : ∀ k, k < 31 → chOk (gA u 11 k)) : RR (pv_X0 L xs) d 122 0 [some (.ref 1), some (.ref 11), none] [] (enc u) = some (none, enc (cfb (cpb (chb u) 31) 12)) := by
  rw [B122b_0]
  have e : (decide (gI u 8 = 0) || decide (gI u 8 = 1)) = true := by
    rcases i32_01 hf with e | e <;> rw [e] <;> rfl
  rw [e, cond_true]
  refine (C_cplb (u := chb u) ?_).trans C_cpfb
  exact hv
theorem M_keep214a0 : RR (pv_X0 L xs) d 214 0 [some (.ref 55), some (.ref 56), some (.int 0), some (.int 0), none, none] [] (enc u) = some (none, enc (cA u 36 0 31 (gA u 26))) := by
  rw [B214a_0]
  obtain ⟨a, h1, h2⟩ := pv_loop (R := fun k (a : pv_U × Option Value) => RR (pv_X0 L xs) d 214 3 [some (.ref 55), some (.ref 56), some (.int 0), some (.int 0), some (.int (jI k)), a.2] [] (enc a.1)) (P := fun k a => a.1 = cA u 36 0 k (gA u 26)) (N := 31) (fun k a hk ha => ⟨(cA u 36 0 (k + 1) (gA u 26), some (.int ((0 : Int32) * (31 : Int32) + jI k))), by
    obtain ⟨a1, a2⟩ := a
    have ha : a1 = _ := ha
    subst ha
    have em : (0 : Int32) * (31 : Int32) + jI k = jI (0 + k) := by
      have : (0 : Int32) * (31 : Int32) = jI 0 := rfl
      rw [this, jI_add]
    show RR (pv_X0 L xs) d 214 3 _ _ _ = _
    rw [B214a_3, if_neg (by show ¬ jI 30 < jI k; rw [jI_lt (by omega) (by omega)]; omega), if_pos rfl, pv_ixn hk (by decide), em, pv_ixn (by omega) (by decide), jI_succ]
    rw [gA_cA, if_neg (by decide), cA_succ], rfl⟩) (a0 := (u, none)) cA_zero.symm
  obtain ⟨a1, a2⟩ := a
  have h2 : a1 = _ := h2
  subst h2
  refine h1.trans ?_
  show RR (pv_X0 L xs) d 214 3 _ _ _ = _
  rw [B214a_3, if_pos (by decide)]
theorem M_keep214a1 : RR (pv_X0 L xs) d 214 0 [some (.ref 55), some (.ref 56), some (.int 0), some (.int 1), none, none] [] (enc u) = some (none, enc (cA u 26 0 31 (fun j => gA u 36 (0 + j)))) := by
  rw [B214a_0]
  obtain ⟨a, h1, h2⟩ := pv_loop (R := fun k (a : pv_U × Option Value) => RR (pv_X0 L xs) d 214 3 [some (.ref 55), some (.ref 56), some (.int 0), some (.int 1), some (.int (jI k)), a.2] [] (enc a.1)) (P := fun k a => a.1 = cA u 26 0 k (fun j => gA u 36 (0 + j))) (N := 31) (fun k a hk ha => ⟨(cA u 26 0 (k + 1) (fun j => gA u 36 (0 + j)), some (.int ((0 : Int32) * (31 : Int32) + jI k))), by
    obtain ⟨a1, a2⟩ := a
    have ha : a1 = _ := ha
    subst ha
    have em : (0 : Int32) * (31 : Int32) + jI k = jI (0 + k) := by
      have : (0 : Int32) * (31 : Int32) = jI 0 := rfl
      rw [this, jI_add]
    show RR (pv_X0 L xs) d 214 3 _ _ _ = _
    rw [B214a_3, if_neg (by show ¬ jI 30 < jI k; rw [jI_lt (by omega) (by omega)]; omega), if_neg (by decide), em, pv_ixn (by omega) (by decide), pv_ixn hk (by decide), jI_succ]
    rw [gA_cA, if_neg (by decide)]
    have e := cA_succ (u := u) (r := 26) (i := 0) (n := k) (f := fun j => gA u 36 (0 + j))
    rw [Nat.zero_add] at e ⊢
    rw [e], rfl⟩) (a0 := (u, none)) cA_zero.symm
  obtain ⟨a1, a2⟩ := a
  have h2 : a1 = _ := h2
  subst h2
  refine h1.trans ?_
  show RR (pv_X0 L xs) d 214 3 _ _ _ = _
  rw [B214a_3, if_pos (by decide)]
theorem M_keep214b0 : RR (pv_X0 L xs) d 214 0 [some (.ref 55), some (.ref 57), some (.int 1), some (.int 0), none, none] [] (enc u) = some (none, enc (cA u 36 31 31 (gA u 27))) := by
  rw [B214b_0]
  obtain ⟨a, h1, h2⟩ := pv_loop (R := fun k (a : pv_U × Option Value) => RR (pv_X0 L xs) d 214 3 [some (.ref 55), some (.ref 57), some (.int 1), some (.int 0), some (.int (jI k)), a.2] [] (enc a.1)) (P := fun k a => a.1 = cA u 36 31 k (gA u 27)) (N := 31) (fun k a hk ha => ⟨(cA u 36 31 (k + 1) (gA u 27), some (.int ((1 : Int32) * (31 : Int32) + jI k))), by
    obtain ⟨a1, a2⟩ := a
    have ha : a1 = _ := ha
    subst ha
    have em : (1 : Int32) * (31 : Int32) + jI k = jI (31 + k) := by
      have : (1 : Int32) * (31 : Int32) = jI 31 := rfl
      rw [this, jI_add]
    show RR (pv_X0 L xs) d 214 3 _ _ _ = _
    rw [B214b_3, if_neg (by show ¬ jI 30 < jI k; rw [jI_lt (by omega) (by omega)]; omega), if_pos rfl, pv_ixn hk (by decide), em, pv_ixn (by omega) (by decide), jI_succ]
    rw [gA_cA, if_neg (by decide), cA_succ], rfl⟩) (a0 := (u, none)) cA_zero.symm
  obtain ⟨a1, a2⟩ := a
  have h2 : a1 = _ := h2
  subst h2
  refine h1.trans ?_
  show RR (pv_X0 L xs) d 214 3 _ _ _ = _
  rw [B214b_3, if_pos (by decide)]
theorem M_keep214b1 : RR (pv_X0 L xs) d 214 0 [some (.ref 55), some (.ref 57), some (.int 1), some (.int 1), none, none] [] (enc u) = some (none, enc (cA u 27 0 31 (fun j => gA u 36 (31 + j)))) := by
  rw [B214b_0]
  obtain ⟨a, h1, h2⟩ := pv_loop (R := fun k (a : pv_U × Option Value) => RR (pv_X0 L xs) d 214 3 [some (.ref 55), some (.ref 57), some (.int 1), some (.int 1), some (.int (jI k)), a.2] [] (enc a.1)) (P := fun k a => a.1 = cA u 27 0 k (fun j => gA u 36 (31 + j))) (N := 31) (fun k a hk ha => ⟨(cA u 27 0 (k + 1) (fun j => gA u 36 (31 + j)), some (.int ((1 : Int32) * (31 : Int32) + jI k))), by
    obtain ⟨a1, a2⟩ := a
    have ha : a1 = _ := ha
    subst ha
    have em : (1 : Int32) * (31 : Int32) + jI k = jI (31 + k) := by
      have : (1 : Int32) * (31 : Int32) = jI 31 := rfl
      rw [this, jI_add]
    show RR (pv_X0 L xs) d 214 3 _ _ _ = _
    rw [B214b_3, if_neg (by show ¬ jI 30 < jI k; rw [jI_lt (by omega) (by omega)]; omega), if_neg (by decide), em, pv_ixn (by omega) (by decide), pv_ixn hk (by decide), jI_succ]
    rw [gA_cA, if_neg (by decide)]
    have e := cA_succ (u := u) (r := 27) (i := 0) (n := k) (f := fun j => gA u 36 (31 + j))
    rw [Nat.zero_add] at e
    rw [e], rfl⟩) (a0 := (u, none)) cA_zero.symm
  obtain ⟨a1, a2⟩ := a
  have h2 : a1 = _ := h2
  subst h2
  refine h1.trans ?_
  show RR (pv_X0 L xs) d 214 3 _ _ _ = _
  rw [B214b_3, if_pos (by decide)]
theorem M_keep214c0 : RR (pv_X0 L xs) d 214 0 [some (.ref 55), some (.ref 58), some (.int 2), some (.int 0), none, none] [] (enc u) = some (none, enc (cA u 36 62 31 (gA u 28))) := by
  rw [B214c_0]
  obtain ⟨a, h1, h2⟩ := pv_loop (R := fun k (a : pv_U × Option Value) => RR (pv_X0 L xs) d 214 3 [some (.ref 55), some (.ref 58), some (.int 2), some (.int 0), some (.int (jI k)), a.2] [] (enc a.1)) (P := fun k a => a.1 = cA u 36 62 k (gA u 28)) (N := 31) (fun k a hk ha => ⟨(cA u 36 62 (k + 1) (gA u 28), some (.int ((2 : Int32) * (31 : Int32) + jI k))), by
    obtain ⟨a1, a2⟩ := a
    have ha : a1 = _ := ha
    subst ha
    have em : (2 : Int32) * (31 : Int32) + jI k = jI (62 + k) := by
      have : (2 : Int32) * (31 : Int32) = jI 62 := rfl
      rw [this, jI_add]
    show RR (pv_X0 L xs) d 214 3 _ _ _ = _
    rw [B214c_3, if_neg (by show ¬ jI 30 < jI k; rw [jI_lt (by omega) (by omega)]; omega), if_pos rfl, pv_ixn hk (by decide), em, pv_ixn (by omega) (by decide), jI_succ]
    rw [gA_cA, if_neg (by decide), cA_succ], rfl⟩) (a0 := (u, none)) cA_zero.symm
  obtain ⟨a1, a2⟩ := a
  have h2 : a1 = _ := h2
  subst h2
  refine h1.trans ?_
  show RR (pv_X0 L xs) d 214 3 _ _ _ = _
  rw [B214c_3, if_pos (by decide)]
theorem M_keep214c1 : RR (pv_X0 L xs) d 214 0 [some (.ref 55), some (.ref 58), some (.int 2), some (.int 1), none, none] [] (enc u) = some (none, enc (cA u 28 0 31 (fun j => gA u 36 (62 + j)))) := by
  rw [B214c_0]
  obtain ⟨a, h1, h2⟩ := pv_loop (R := fun k (a : pv_U × Option Value) => RR (pv_X0 L xs) d 214 3 [some (.ref 55), some (.ref 58), some (.int 2), some (.int 1), some (.int (jI k)), a.2] [] (enc a.1)) (P := fun k a => a.1 = cA u 28 0 k (fun j => gA u 36 (62 + j))) (N := 31) (fun k a hk ha => ⟨(cA u 28 0 (k + 1) (fun j => gA u 36 (62 + j)), some (.int ((2 : Int32) * (31 : Int32) + jI k))), by
    obtain ⟨a1, a2⟩ := a
    have ha : a1 = _ := ha
    subst ha
    have em : (2 : Int32) * (31 : Int32) + jI k = jI (62 + k) := by
      have : (2 : Int32) * (31 : Int32) = jI 62 := rfl
      rw [this, jI_add]
    show RR (pv_X0 L xs) d 214 3 _ _ _ = _
    rw [B214c_3, if_neg (by show ¬ jI 30 < jI k; rw [jI_lt (by omega) (by omega)]; omega), if_neg (by decide), em, pv_ixn (by omega) (by decide), pv_ixn hk (by decide), jI_succ]
    rw [gA_cA, if_neg (by decide)]
    have e := cA_succ (u := u) (r := 28) (i := 0) (n := k) (f := fun j => gA u 36 (62 + j))
    rw [Nat.zero_add] at e
    rw [e], rfl⟩) (a0 := (u, none)) cA_zero.symm
  obtain ⟨a1, a2⟩ := a
  have h2 : a1 = _ := h2
  subst h2
  refine h1.trans ?_
  show RR (pv_X0 L xs) d 214 3 _ _ _ = _
  rw [B214c_3, if_pos (by decide)]
theorem M_keep214d0 : RR (pv_X0 L xs) d 214 0 [some (.ref 55), some (.ref 59), some (.int 3), some (.int 0), none, none] [] (enc u) = some (none, enc (cA u 36 93 31 (gA u 29))) := by
  rw [B214d_0]
  obtain ⟨a, h1, h2⟩ := pv_loop (R := fun k (a : pv_U × Option Value) => RR (pv_X0 L xs) d 214 3 [some (.ref 55), some (.ref 59), some (.int 3), some (.int 0), some (.int (jI k)), a.2] [] (enc a.1)) (P := fun k a => a.1 = cA u 36 93 k (gA u 29)) (N := 31) (fun k a hk ha => ⟨(cA u 36 93 (k + 1) (gA u 29), some (.int ((3 : Int32) * (31 : Int32) + jI k))), by
    obtain ⟨a1, a2⟩ := a
    have ha : a1 = _ := ha
    subst ha
    have em : (3 : Int32) * (31 : Int32) + jI k = jI (93 + k) := by
      have : (3 : Int32) * (31 : Int32) = jI 93 := rfl
      rw [this, jI_add]
    show RR (pv_X0 L xs) d 214 3 _ _ _ = _
    rw [B214d_3, if_neg (by show ¬ jI 30 < jI k; rw [jI_lt (by omega) (by omega)]; omega), if_pos rfl, pv_ixn hk (by decide), em, pv_ixn (by omega) (by decide), jI_succ]
    rw [gA_cA, if_neg (by decide), cA_succ], rfl⟩) (a0 := (u, none)) cA_zero.symm
  obtain ⟨a1, a2⟩ := a
  have h2 : a1 = _ := h2
  subst h2
  refine h1.trans ?_
  show RR (pv_X0 L xs) d 214 3 _ _ _ = _
  rw [B214d_3, if_pos (by decide)]
theorem M_keep214d1 : RR (pv_X0 L xs) d 214 0 [some (.ref 55), some (.ref 59), some (.int 3), some (.int 1), none, none] [] (enc u) = some (none, enc (cA u 29 0 31 (fun j => gA u 36 (93 + j)))) := by
  rw [B214d_0]
  obtain ⟨a, h1, h2⟩ := pv_loop (R := fun k (a : pv_U × Option Value) => RR (pv_X0 L xs) d 214 3 [some (.ref 55), some (.ref 59), some (.int 3), some (.int 1), some (.int (jI k)), a.2] [] (enc a.1)) (P := fun k a => a.1 = cA u 29 0 k (fun j => gA u 36 (93 + j))) (N := 31) (fun k a hk ha => ⟨(cA u 29 0 (k + 1) (fun j => gA u 36 (93 + j)), some (.int ((3 : Int32) * (31 : Int32) + jI k))), by
    obtain ⟨a1, a2⟩ := a
    have ha : a1 = _ := ha
    subst ha
    have em : (3 : Int32) * (31 : Int32) + jI k = jI (93 + k) := by
      have : (3 : Int32) * (31 : Int32) = jI 93 := rfl
      rw [this, jI_add]
    show RR (pv_X0 L xs) d 214 3 _ _ _ = _
    rw [B214d_3, if_neg (by show ¬ jI 30 < jI k; rw [jI_lt (by omega) (by omega)]; omega), if_neg (by decide), em, pv_ixn (by omega) (by decide), pv_ixn hk (by decide), jI_succ]
    rw [gA_cA, if_neg (by decide)]
    have e := cA_succ (u := u) (r := 29) (i := 0) (n := k) (f := fun j => gA u 36 (93 + j))
    rw [Nat.zero_add] at e
    rw [e], rfl⟩) (a0 := (u, none)) cA_zero.symm
  obtain ⟨a1, a2⟩ := a
  have h2 : a1 = _ := h2
  subst h2
  refine h1.trans ?_
  show RR (pv_X0 L xs) d 214 3 _ _ _ = _
  rw [B214d_3, if_pos (by decide)]
theorem M_keep214e0 : RR (pv_X0 L xs) d 214 0 [some (.ref 55), some (.ref 60), some (.int 4), some (.int 0), none, none] [] (enc u) = some (none, enc (cA u 36 124 31 (gA u 30))) := by
  rw [B214e_0]
  obtain ⟨a, h1, h2⟩ := pv_loop (R := fun k (a : pv_U × Option Value) => RR (pv_X0 L xs) d 214 3 [some (.ref 55), some (.ref 60), some (.int 4), some (.int 0), some (.int (jI k)), a.2] [] (enc a.1)) (P := fun k a => a.1 = cA u 36 124 k (gA u 30)) (N := 31) (fun k a hk ha => ⟨(cA u 36 124 (k + 1) (gA u 30), some (.int ((4 : Int32) * (31 : Int32) + jI k))), by
    obtain ⟨a1, a2⟩ := a
    have ha : a1 = _ := ha
    subst ha
    have em : (4 : Int32) * (31 : Int32) + jI k = jI (124 + k) := by
      have : (4 : Int32) * (31 : Int32) = jI 124 := rfl
      rw [this, jI_add]
    show RR (pv_X0 L xs) d 214 3 _ _ _ = _
    rw [B214e_3, if_neg (by show ¬ jI 30 < jI k; rw [jI_lt (by omega) (by omega)]; omega), if_pos rfl, pv_ixn hk (by decide), em, pv_ixn (by omega) (by decide), jI_succ]
    rw [gA_cA, if_neg (by decide), cA_succ], rfl⟩) (a0 := (u, none)) cA_zero.symm
  obtain ⟨a1, a2⟩ := a
  have h2 : a1 = _ := h2
  subst h2
  refine h1.trans ?_
  show RR (pv_X0 L xs) d 214 3 _ _ _ = _
  rw [B214e_3, if_pos (by decide)]
theorem M_keep214e1 : RR (pv_X0 L xs) d 214 0 [some (.ref 55), some (.ref 60), some (.int 4), some (.int 1), none, none] [] (enc u) = some (none, enc (cA u 30 0 31 (fun j => gA u 36 (124 + j)))) := by
  rw [B214e_0]
  obtain ⟨a, h1, h2⟩ := pv_loop (R := fun k (a : pv_U × Option Value) => RR (pv_X0 L xs) d 214 3 [some (.ref 55), some (.ref 60), some (.int 4), some (.int 1), some (.int (jI k)), a.2] [] (enc a.1)) (P := fun k a => a.1 = cA u 30 0 k (fun j => gA u 36 (124 + j))) (N := 31) (fun k a hk ha => ⟨(cA u 30 0 (k + 1) (fun j => gA u 36 (124 + j)), some (.int ((4 : Int32) * (31 : Int32) + jI k))), by
    obtain ⟨a1, a2⟩ := a
    have ha : a1 = _ := ha
    subst ha
    have em : (4 : Int32) * (31 : Int32) + jI k = jI (124 + k) := by
      have : (4 : Int32) * (31 : Int32) = jI 124 := rfl
      rw [this, jI_add]
    show RR (pv_X0 L xs) d 214 3 _ _ _ = _
    rw [B214e_3, if_neg (by show ¬ jI 30 < jI k; rw [jI_lt (by omega) (by omega)]; omega), if_neg (by decide), em, pv_ixn (by omega) (by decide), pv_ixn hk (by decide), jI_succ]
    rw [gA_cA, if_neg (by decide)]
    have e := cA_succ (u := u) (r := 30) (i := 0) (n := k) (f := fun j => gA u 36 (124 + j))
    rw [Nat.zero_add] at e
    rw [e], rfl⟩) (a0 := (u, none)) cA_zero.symm
  obtain ⟨a1, a2⟩ := a
  have h2 : a1 = _ := h2
  subst h2
  refine h1.trans ?_
  show RR (pv_X0 L xs) d 214 3 _ _ _ = _
  rw [B214e_3, if_pos (by decide)]
theorem M_keep215a0 : RR (pv_X0 L xs) d 215 0 [some (.ref 55), some (.ref 62), some (.int 0), some (.int 0), none, none] [] (enc u) = some (none, enc (cB u 25 0 31 (gB u 17))) := by
  rw [B215a_0]
  obtain ⟨a, h1, h2⟩ := pv_loop (R := fun k (a : pv_U × Option Value) => RR (pv_X0 L xs) d 215 3 [some (.ref 55), some (.ref 62), some (.int 0), some (.int 0), some (.int (jI k)), a.2] [] (enc a.1)) (P := fun k a => a.1 = cB u 25 0 k (gB u 17)) (N := 31) (fun k a hk ha => ⟨(cB u 25 0 (k + 1) (gB u 17), some (.int ((0 : Int32) * (31 : Int32) + jI k))), by
    obtain ⟨a1, a2⟩ := a
    have ha : a1 = _ := ha
    subst ha
    have em : (0 : Int32) * (31 : Int32) + jI k = jI (0 + k) := by
      have : (0 : Int32) * (31 : Int32) = jI 0 := rfl
      rw [this, jI_add]
    show RR (pv_X0 L xs) d 215 3 _ _ _ = _
    rw [B215a_3, if_neg (by show ¬ jI 30 < jI k; rw [jI_lt (by omega) (by omega)]; omega), if_pos rfl, pv_ixn hk (by decide), em, pv_ixn (by omega) (by decide), jI_succ]
    rw [gB_cB, if_neg (by decide), cB_succ], rfl⟩) (a0 := (u, none)) cB_zero.symm
  obtain ⟨a1, a2⟩ := a
  have h2 : a1 = _ := h2
  subst h2
  refine h1.trans ?_
  show RR (pv_X0 L xs) d 215 3 _ _ _ = _
  rw [B215a_3, if_pos (by decide)]
theorem M_keep215a1 : RR (pv_X0 L xs) d 215 0 [some (.ref 55), some (.ref 62), some (.int 0), some (.int 1), none, none] [] (enc u) = some (none, enc (cB u 17 0 31 (fun j => gB u 25 (0 + j)))) := by
  rw [B215a_0]
  obtain ⟨a, h1, h2⟩ := pv_loop (R := fun k (a : pv_U × Option Value) => RR (pv_X0 L xs) d 215 3 [some (.ref 55), some (.ref 62), some (.int 0), some (.int 1), some (.int (jI k)), a.2] [] (enc a.1)) (P := fun k a => a.1 = cB u 17 0 k (fun j => gB u 25 (0 + j))) (N := 31) (fun k a hk ha => ⟨(cB u 17 0 (k + 1) (fun j => gB u 25 (0 + j)), some (.int ((0 : Int32) * (31 : Int32) + jI k))), by
    obtain ⟨a1, a2⟩ := a
    have ha : a1 = _ := ha
    subst ha
    have em : (0 : Int32) * (31 : Int32) + jI k = jI (0 + k) := by
      have : (0 : Int32) * (31 : Int32) = jI 0 := rfl
      rw [this, jI_add]
    show RR (pv_X0 L xs) d 215 3 _ _ _ = _
    rw [B215a_3, if_neg (by show ¬ jI 30 < jI k; rw [jI_lt (by omega) (by omega)]; omega), if_neg (by decide), em, pv_ixn (by omega) (by decide), pv_ixn hk (by decide), jI_succ]
    rw [gB_cB, if_neg (by decide)]
    have e := cB_succ (u := u) (r := 17) (i := 0) (n := k) (g := fun j => gB u 25 (0 + j))
    rw [Nat.zero_add] at e ⊢
    rw [e], rfl⟩) (a0 := (u, none)) cB_zero.symm
  obtain ⟨a1, a2⟩ := a
  have h2 : a1 = _ := h2
  subst h2
  refine h1.trans ?_
  show RR (pv_X0 L xs) d 215 3 _ _ _ = _
  rw [B215a_3, if_pos (by decide)]
theorem M_keep215b0 : RR (pv_X0 L xs) d 215 0 [some (.ref 55), some (.ref 63), some (.int 1), some (.int 0), none, none] [] (enc u) = some (none, enc (cB u 25 31 31 (gB u 18))) := by
  rw [B215b_0]
  obtain ⟨a, h1, h2⟩ := pv_loop (R := fun k (a : pv_U × Option Value) => RR (pv_X0 L xs) d 215 3 [some (.ref 55), some (.ref 63), some (.int 1), some (.int 0), some (.int (jI k)), a.2] [] (enc a.1)) (P := fun k a => a.1 = cB u 25 31 k (gB u 18)) (N := 31) (fun k a hk ha => ⟨(cB u 25 31 (k + 1) (gB u 18), some (.int ((1 : Int32) * (31 : Int32) + jI k))), by
    obtain ⟨a1, a2⟩ := a
    have ha : a1 = _ := ha
    subst ha
    have em : (1 : Int32) * (31 : Int32) + jI k = jI (31 + k) := by
      have : (1 : Int32) * (31 : Int32) = jI 31 := rfl
      rw [this, jI_add]
    show RR (pv_X0 L xs) d 215 3 _ _ _ = _
    rw [B215b_3, if_neg (by show ¬ jI 30 < jI k; rw [jI_lt (by omega) (by omega)]; omega), if_pos rfl, pv_ixn hk (by decide), em, pv_ixn (by omega) (by decide), jI_succ]
    rw [gB_cB, if_neg (by decide), cB_succ], rfl⟩) (a0 := (u, none)) cB_zero.symm
  obtain ⟨a1, a2⟩ := a
  have h2 : a1 = _ := h2
  subst h2
  refine h1.trans ?_
  show RR (pv_X0 L xs) d 215 3 _ _ _ = _
  rw [B215b_3, if_pos (by decide)]
theorem M_keep215b1 : RR (pv_X0 L xs) d 215 0 [some (.ref 55), some (.ref 63), some (.int 1), some (.int 1), none, none] [] (enc u) = some (none, enc (cB u 18 0 31 (fun j => gB u 25 (31 + j)))) := by
  rw [B215b_0]
  obtain ⟨a, h1, h2⟩ := pv_loop (R := fun k (a : pv_U × Option Value) => RR (pv_X0 L xs) d 215 3 [some (.ref 55), some (.ref 63), some (.int 1), some (.int 1), some (.int (jI k)), a.2] [] (enc a.1)) (P := fun k a => a.1 = cB u 18 0 k (fun j => gB u 25 (31 + j))) (N := 31) (fun k a hk ha => ⟨(cB u 18 0 (k + 1) (fun j => gB u 25 (31 + j)), some (.int ((1 : Int32) * (31 : Int32) + jI k))), by
    obtain ⟨a1, a2⟩ := a
    have ha : a1 = _ := ha
    subst ha
    have em : (1 : Int32) * (31 : Int32) + jI k = jI (31 + k) := by
      have : (1 : Int32) * (31 : Int32) = jI 31 := rfl
      rw [this, jI_add]
    show RR (pv_X0 L xs) d 215 3 _ _ _ = _
    rw [B215b_3, if_neg (by show ¬ jI 30 < jI k; rw [jI_lt (by omega) (by omega)]; omega), if_neg (by decide), em, pv_ixn (by omega) (by decide), pv_ixn hk (by decide), jI_succ]
    rw [gB_cB, if_neg (by decide)]
    have e := cB_succ (u := u) (r := 18) (i := 0) (n := k) (g := fun j => gB u 25 (31 + j))
    rw [Nat.zero_add] at e
    rw [e], rfl⟩) (a0 := (u, none)) cB_zero.symm
  obtain ⟨a1, a2⟩ := a
  have h2 : a1 = _ := h2
  subst h2
  refine h1.trans ?_
  show RR (pv_X0 L xs) d 215 3 _ _ _ = _
  rw [B215b_3, if_pos (by decide)]
theorem M_keepF0 : RR (pv_X0 L xs) d 213 76 [some (.ref 55), some (.int 0), some (.int 155), some (.int 0)] [] (enc u) = some (none, enc (cA u 36 155 24 (gA u 31))) := by
  obtain ⟨a, h1, h2⟩ := pv_loop (R := fun k a => RR (pv_X0 L xs) d 213 76 [some (.ref 55), some (.int 0), some (.int 155), some (.int (jI k))] [] (enc a)) (P := fun k a => a = cA u 36 155 k (gA u 31)) (N := 24) (fun k a hk ha => ⟨cA u 36 155 (k + 1) (gA u 31), by
    subst ha
    have em : (155 : Int32) + jI k = jI (155 + k) := by
      have : (155 : Int32) = jI 155 := rfl
      rw [this, jI_add]
    show RR (pv_X0 L xs) d 213 76 _ _ _ = _
    rw [B213_76, if_neg (run_lit (c := 24) (N := 24) rfl hk (by omega)), if_pos rfl, pv_ixn hk (by decide), em, pv_ixn (by omega) (by decide), jI_succ]
    rw [gA_cA, if_neg (by decide), cA_succ], rfl⟩) (a0 := u) cA_zero.symm
  subst h2
  refine h1.trans ?_
  show RR (pv_X0 L xs) d 213 76 _ _ _ = _
  rw [B213_76, if_pos (by decide)]
theorem M_keepF1 : RR (pv_X0 L xs) d 213 76 [some (.ref 55), some (.int 1), some (.int 155), some (.int 0)] [] (enc u) = some (none, enc (cA u 31 0 24 (fun j => gA u 36 (155 + j)))) := by
  obtain ⟨a, h1, h2⟩ := pv_loop (R := fun k a => RR (pv_X0 L xs) d 213 76 [some (.ref 55), some (.int 1), some (.int 155), some (.int (jI k))] [] (enc a)) (P := fun k a => a = cA u 31 0 k (fun j => gA u 36 (155 + j))) (N := 24) (fun k a hk ha => ⟨cA u 31 0 (k + 1) (fun j => gA u 36 (155 + j)), by
    subst ha
    have em : (155 : Int32) + jI k = jI (155 + k) := by
      have : (155 : Int32) = jI 155 := rfl
      rw [this, jI_add]
    show RR (pv_X0 L xs) d 213 76 _ _ _ = _
    rw [B213_76, if_neg (run_lit (c := 24) (N := 24) rfl hk (by omega)), if_neg (by decide), em, pv_ixn (by omega) (by decide), pv_ixn hk (by decide), jI_succ]
    rw [gA_cA, if_neg (by decide)]
    have e := cA_succ (u := u) (r := 31) (i := 0) (n := k) (f := fun j => gA u 36 (155 + j))
    rw [Nat.zero_add] at e
    rw [e], rfl⟩) (a0 := u) cA_zero.symm
  subst h2
  refine h1.trans ?_
  show RR (pv_X0 L xs) d 213 76 _ _ _ = _
  rw [B213_76, if_pos (by decide)]
def kp0 (u : pv_U) : pv_U := cA (cB (cB (cA (cA (cA (cA (cA (u) 36 0 31 (gA u 26)) 36 31 31 (gA u 27)) 36 62 31 (gA u 28)) 36 93 31 (gA u 29)) 36 124 31 (gA u 30)) 25 0 31 (gB u 17)) 25 31 31 (gB u 18)) 36 155 24 (gA u 31)
theorem M_keeps0 : RR (pv_X0 L xs) (d + 1) 213 0 [some (.ref 55), some (.int 0), none, none] [] (enc u) = some (none, enc (kp0 u)) := by
  unfold kp0
  simp only [B213_0, M_keep214a0, B213_10, M_keep214b0, B213_20, M_keep214c0, B213_30, M_keep214d0, B213_40, M_keep214e0, B213_50, M_keep215a0, B213_60, M_keep215b0, B213_70, M_keepF0, reduceIte, e10, pv_bd_some, Option.toList_some, Option.toList_none, List.cons_append, List.nil_append, List.append_nil, fA_cA, fB_cA, fA_cB, fB_cB, Nat.reduceEqDiff, not_false_eq_true]
def kp1 (u : pv_U) : pv_U := cA (cB (cB (cA (cA (cA (cA (cA (u) 26 0 31 (fun j => gA u 36 (0 + j))) 27 0 31 (fun j => gA u 36 (31 + j))) 28 0 31 (fun j => gA u 36 (62 + j))) 29 0 31 (fun j => gA u 36 (93 + j))) 30 0 31 (fun j => gA u 36 (124 + j))) 17 0 31 (fun j => gB u 25 (0 + j))) 18 0 31 (fun j => gB u 25 (31 + j))) 31 0 24 (fun j => gA u 36 (155 + j))
theorem M_keeps1 : RR (pv_X0 L xs) (d + 1) 213 0 [some (.ref 55), some (.int 1), none, none] [] (enc u) = some (none, enc (kp1 u)) := by
  unfold kp1
  simp only [B213_0, M_keep214a1, B213_10, M_keep214b1, B213_20, M_keep214c1, B213_30, M_keep214d1, B213_40, M_keep214e1, B213_50, M_keep215a1, B213_60, M_keep215b1, B213_70, M_keepF1, reduceIte, e10, pv_bd_some, Option.toList_some, Option.toList_none, List.cons_append, List.nil_append, List.append_nil, fA_cA, fB_cA, fA_cB, fB_cB, Nat.reduceEqDiff, not_false_eq_true]
end OPS8
